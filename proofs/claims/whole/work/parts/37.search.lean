/-! The class's search: least, canvases. -/
theorem sal_app {σ : zM} {cv : Bool} {l : List Nat} {x : Nat} : sal σ cv (l ++ [x]) = sap σ cv x (sal σ cv l) := by
  unfold sal
  rw [List.foldl_append]
  rfl
theorem sal_n0 {σ : zM} {cv : Bool} {x i : Nat} (hx : x < 36) (hi : i = x ∨ i = 36 + x ∨ i = 72 + x) : ∀ (l : List Nat) (s : Nat → Int32), (∀ y, y ∈ l → y ≠ x ∧ y < 36) → l.foldl (fun s x => sap σ cv x s) s i = s i
  | [], _, _ => rfl
  | y :: l, s, h => by
    have h1 := h y List.mem_cons_self
    show l.foldl (fun s x => sap σ cv x s) (sap σ cv y s) i = s i
    rw [sal_n0 hx hi l _ fun z hz => h z (List.mem_cons_of_mem _ hz)]
    exact sch_n (by omega) (by omega) (by omega)
theorem sal_n {σ : zM} {N : Nat} {el : Nat → Prop} {cv : Bool} {l : List Nat} {x i : Nat} (hN : N ≤ 36) (hl : zokl N el l) (h1 : nxt l ≤ x) (hx : x < 36) (hi : i = x ∨ i = 36 + x ∨ i = 72 + x) : sal σ cv l i = σ 3 i :=
  sal_n0 hx hi l _ fun y hy => by
    have := zokl_lt hl y hy
    omega
theorem sal_ok0 {σ : zM} {N : Nat} {cv : Bool} (h : WF σ) : ∀ (l : List Nat) (s : Nat → Int32), (∀ y, y ∈ l → y < 36) → zOk N s → zOk N (l.foldl (fun s x => sap σ cv x s) s)
  | [], _, _, hs => hs
  | y :: l, s, hl, hs => sal_ok0 h l _ (fun z hz => hl z (List.mem_cons_of_mem _ hz)) (sch_ok hs (hl y List.mem_cons_self) (Or.inr rfl) (h.2.2.2.2.2.2.2.1 y (hl y List.mem_cons_self)))
theorem sal_ok {σ : zM} {el : Nat → Prop} {cv : Bool} {l : List Nat} (h : WF σ) (hl : zokl (sr σ * sc σ) el l) : zOk (sr σ * sc σ) (sal σ cv l) :=
  sal_ok0 h l _ (fun y hy => by have := zokl_lt hl y hy; have := h.N; omega) h.now
theorem sal_w0 {σ : zM} {cv : Bool} : ∀ (l : List Nat) (s : Nat → Int32), (∀ y, y ∈ l → y < 36) → zwi (s 108) → zwi (l.foldl (fun s x => sap σ cv x s) s 108)
  | [], _, _, hs => hs
  | y :: l, s, hl, hs => sal_w0 l _ (fun z hz => hl z (List.mem_cons_of_mem _ hz)) (zw_of hs (by
    have := hl y List.mem_cons_self
    exact sch_n (by omega) (by omega) (by omega)))
theorem sal_w {σ : zM} {el : Nat → Prop} {cv : Bool} {l : List Nat} (h : WF σ) (hl : zokl (sr σ * sc σ) el l) : zwi (sal σ cv l 108) :=
  sal_w0 l _ (fun y hy => by have := zokl_lt hl y hy; have := h.N; omega) h.ww.1
theorem sch_back {cv : Bool} {x : Nat} {k : Int32} {s : Nat → Int32} (hx : x < 36) (hh : cv = true → s (72 + x) = nI 0) : sch cv x (nI 0) (s x) (s (36 + x)) (sch cv x (nI 1) k (nI 0) s) = s := by
  funext i
  unfold sch
  cases cv
  · show spl x (s x) (s (36 + x)) (spl x k (nI 0) s) i = s i
    by_cases e1 : i = x
    · subst e1; exact spl_j
    by_cases e2 : i = 36 + x
    · subst e2; exact spl_a
    rw [spl_n e1 e2, spl_n e1 e2]
  · show upd (upd s (72 + x) (nI 1)) (72 + x) (nI 0) i = s i
    by_cases e1 : i = 72 + x
    · subst e1; rw [pk_us, hh rfl]
    rw [pk_un e1, pk_un e1]
theorem kwt_le {σ : zM} {cv : Bool} {x : Nat} : kwt σ cv x ≤ 4 := by
  unfold kwt
  split
  · omega
  · exact zz_le _
theorem kw_le {w : Nat → Nat} (h : ∀ x, w x ≤ 4) (l : List Nat) : kw w l ≤ 12 := by
  rcases l with _ | ⟨a, _ | ⟨b, _ | ⟨c, _ | ⟨e, _⟩⟩⟩⟩
  · exact Nat.zero_le _
  · have := h a; show w a ≤ 12; omega
  · have := h a; have := h b; show w a + w b ≤ 12; omega
  · have := h a; have := h b; have := h c; show w a + w b + w c ≤ 12; omega
  · exact Nat.zero_le _
theorem kwt_t {σ : zM} (l : List Nat) : kw (kwt σ true) l = 0 := by
  rcases l with _ | ⟨a, _ | ⟨b, _ | ⟨c, _ | ⟨e, _⟩⟩⟩⟩ <;> rfl
theorem dn_lt {N : Nat} {el : Nat → Prop} {v : List Nat} (hN : N ≤ 36) (hv : zokl N el v) : dn v < 262144 := by
  rcases v with _ | ⟨a, _ | ⟨b, _ | ⟨c, _ | ⟨e, _⟩⟩⟩⟩
  · exact Nat.le_of_ble_eq_true rfl
  all_goals first
    | exact absurd hv id
    | (simp only [dn, zokl] at hv ⊢; omega)
/-- what the class's search has found -/
def RB (w : Nat → Nat) (ct : zM) (r : Option (List Nat)) : Prop := match r with
  | none => ct 28 6 = nI 0
  | some b => ct 28 6 = nI 1 ∧ ct 28 7 = nI (kw w b) ∧ ct 28 8 = nI b.length ∧ ∀ i, i < b.length → ct 30 i = nI (b.getD i 0)
theorem RB.keep {w : Nat → Nat} {ct ct' : zM} {r : Option (List Nat)} (h : RB w ct r) (h1 : ct' 28 = ct 28) (h2 : ct' 30 = ct 30) : RB w ct' r := by
  unfold RB at *
  rw [h1, h2]
  exact h
/-- the class's search stands at the set l -/
def SI (σ : zM) (cv : Bool) (ct0 ct : zM) (l : List Nat) (r : Option (List Nat)) : Prop :=
  (∀ b, ¬ (22 ≤ b ∧ b ≤ 30) → ct b = ct0 b) ∧ ct 28 5 = bcv cv ∧ zTm ct 22 (sal σ cv l) ∧ zJ ct (sp σ (sal σ cv l)) (sr σ * sc σ) ∧ (∀ i, i < l.length → ct 29 i = nI (l.getD i 0)) ∧ RB (kwt σ cv) ct r
def btr (w : Nat → Nat) (r : Option (List Nat)) (K n : Nat) : Bool := match r with
  | none => true
  | some s => decide (K < kw w s ∨ (K = kw w s ∧ n < s.length))
theorem btr_y {w : Nat → Nat} {r : Option (List Nat)} {K n : Nat} (h : btr w r K n = true) : ∀ s, r = some s → K < kw w s ∨ (K = kw w s ∧ n < s.length) := fun s e => by
  subst e
  exact of_decide_eq_true h
theorem btr_n {w : Nat → Nat} {s : List Nat} {K n : Nat} (h : ¬ btr w (some s) K n = true) : ¬ (K < kw w s ∨ (K = kw w s ∧ n < s.length)) := fun z => h (decide_eq_true z)
theorem CP.si {σ ct0 ct : zM} (h : CP σ ct0) (k : ∀ b, ¬ (22 ≤ b ∧ b ≤ 30) → ct b = ct0 b) : CP σ ct := by
  unfold CP
  rw [k 11 (by omega), k 12 (by omega), k 13 (by omega)]
  exact h
section
variable {X : Nat × (Nat → Int32)} {D : zD} {ct σ : zM} {d : Nat}
theorem e74 {w : Nat → Nat} {r : Option (List Nat)} {K n : Nat} (hw : ∀ x, w x ≤ 4) (hR : RB w ct r) (hl : ∀ s, r = some s → s.length ≤ 3) (hK : K ≤ 100) (hn : n ≤ 3) : EV X (d + 1) 74 [.ref 28, .int (nI K), .int (nI n)] (mk D ct) (some (.int (if btr w r K n = true then nI 1 else nI 0))) (mk D ct) := by
  refine EV_intro (Nat.le_of_ble_eq_true rfl) ?_
  rcases r with _ | s
  · have hb : btr w none K n = true := rfl
    rw [if_pos hb]
    exact b74_0 (fun _ => b74_31 ⟨rfl, rfl⟩) (fun z => absurd hR z)
  · obtain ⟨a1, a2, a3, a4⟩ := hR
    have hk := kw_le hw s
    have hs := hl s rfl
    refine b74_0 (fun z => absurd (a1.symm.trans z) (by decide)) (fun _ => ?_)
    by_cases hb : btr w (some s) K n = true
    · rw [if_pos hb]
      have hb := btr_y hb s rfl
      refine b74_7 (fun _ => b74_31 ⟨rfl, rfl⟩) (fun h1 => ?_)
      rw [a2, zlt (by omega) (by omega)] at h1
      refine b74_15 (fun _ => ?_) (fun h2 => ?_)
      · refine b74_23 (fun h3 => ?_) (fun _ => b74_31 ⟨rfl, rfl⟩)
        rw [a3, zle (by omega) (by omega)] at h3
        omega
      · rw [a2, zeq (by omega) (by omega)] at h2
        omega
    · rw [if_neg hb]
      have hb := btr_n hb
      refine b74_7 (fun h1 => ?_) (fun h1 => ?_)
      · rw [a2, zlt (by omega) (by omega)] at h1
        omega
      refine b74_15 (fun h2 => ?_) (fun _ => b74_35 ⟨rfl, rfl⟩)
      rw [a2, zeq (by omega) (by omega)] at h2
      refine b74_23 (fun _ => b74_35 ⟨rfl, rfl⟩) (fun h3 => ?_)
      rw [a3, zle (by omega) (by omega)] at h3
      omega
theorem e75 {n : Nat} {K : Int32} (hn : n ≤ 3) : CE X (d + 1) 75 [.ref 28, .int (nI n), .int K] D ct (fun v D' ct' => v = none ∧ D = D' ∧ (∀ b, b ≠ 28 → b ≠ 30 → ct' b = ct b) ∧ (ct' 28 5 = ct 28 5 ∧ ct' 28 6 = nI 1 ∧ ct' 28 7 = K ∧ ct' 28 8 = nI n) ∧ ∀ i, i < n → ct' 30 i = ct 29 i) := by
  refine CE_of (Nat.le_of_ble_eq_true rfl) ?_
  refine b75_0 ?_
  refine z_loop0 n (fun i ls ct1 => ls = [.ref 28, .int (nI n), .int K, .int (nI i)] ∧ (∀ b, b ≠ 28 → b ≠ 30 → ct1 b = ct b) ∧ (ct1 28 5 = ct 28 5 ∧ ct1 28 6 = nI 1 ∧ ct1 28 7 = K ∧ ct1 28 8 = nI n) ∧ ∀ j, j < i → ct1 30 j = ct 29 j) ⟨rfl, fun b h1 h2 => by rw [u2_n h1, u2_n h1, u2_n h1], by simp [u2_a], fun j hj => absurd hj (Nat.not_lt_zero _)⟩ ?_ ?_
  · rintro i _ ct1 hi ⟨rfl, h1, h2, h3⟩ ih
    refine b75_17 (fun z => ?_) (fun _ => b75_22 (fun z => ?_) (fun _ => ?_))
    · rw [zle (by omega) (by omega)] at z; omega
    · rw [zle (by omega) (by omega)] at z; omega
    refine b75_27 (zix_nI (j := i) (by omega) (by decide)) (zix_nI (j := i) (by omega) (by decide)) (ih _ _ ⟨by rw [nI_add], fun b q1 q2 => by rw [u2_n q2, h1 b q1 q2], by rw [u2_n (by decide)]; exact h2, fun j hj => ?_⟩)
    rw [u2_r]
    by_cases e : j = i
    · subst e; rw [pk_us, h1 29 (by decide) (by decide)]
    · rw [pk_un e]; exact h3 j (by omega)
  · rintro _ ct1 ⟨rfl, h1, h2, h3⟩
    refine b75_17 (fun _ => b75_45 (zQ_of ⟨rfl, rfl, h1, h2, h3⟩)) (fun z => absurd ((zle (by omega) (by omega)).2 (Nat.le_refl _)) z)
/-- what is promised of a step of the search from the set l on -/
def SQ (σ : zM) (cv : Bool) (D : zD) (ct0 : zM) (l : List Nat) : Option Value → zD → zM → Prop := fun v D' ct' => v = none ∧ D = D' ∧ ∃ r', SI σ cv ct0 ct' l r' ∧ BE (sr σ * sc σ) (eli σ cv) (kwt σ cv) (pas σ cv) (fun v => dn v < dn l + wid l) r'
theorem getD_app1 {l : List Nat} {x i : Nat} (h : i < l.length) : (l ++ [x]).getD i 0 = l.getD i 0 := by
  rw [List.getD_eq_getElem?_getD, List.getD_eq_getElem?_getD, List.getElem?_append_left h]
theorem getD_app2 {l : List Nat} {x : Nat} : (l ++ [x]).getD l.length 0 = x := by
  rw [List.getD_eq_getElem?_getD, List.getElem?_append_right (Nat.le_refl _), Nat.sub_self]
  rfl
theorem r76 {l : List Nat} {cv : Bool} {ct0 : zM} (h : WF σ) (ha : CA σ D ct0) (hl : zokl (sr σ * sc σ) (eli σ cv) l) (h3 : l.length < 3)
    (hext : ∀ x ct r, nxt l ≤ x → x < sr σ * sc σ → eli σ cv x → SI σ cv ct0 ct (l ++ [x]) r → BE (sr σ * sc σ) (eli σ cv) (kwt σ cv) (pas σ cv) (fun v => dn v < dn (l ++ [x])) r → CE X (d + 5) 73 [.ref 28, .int (nI (x + 1)), .int (nI (l.length + 1)), .int (nI (kw (kwt σ cv) (l ++ [x])))] D ct (SQ σ cv D ct0 (l ++ [x])))
    {r : Option (List Nat)} (hS : SI σ cv ct0 ct l r) (hB : BE (sr σ * sc σ) (eli σ cv) (kwt σ cv) (pas σ cv) (fun v => dn v < dn l + (nxt l + 1) * wi2 l) r) :
    CE X (d + 6) 76 [.ref 28, .int (nI (nxt l)), .int (nI l.length), .int (nI (kw (kwt σ cv) l))] D ct (SQ σ cv D ct0 l) := by
  have hN := h.N
  have hN1 := h.N1
  have hnx := nxt_le hl
  have hok := sal_ok (cv := cv) h hl
  refine CE_of (Nat.le_of_ble_eq_true rfl) ?_
  refine b76_0 (fun z => ?_) (fun _ => b76_4 (fun z => ?_) (fun _ => b76_8 (fun _ => ?_) (fun z => ?_)))
  · rw [zlt (by omega) (by omega)] at z; omega
  · rw [zlt (by omega) (by omega)] at z; omega
  rotate_left
  · exact absurd ((zlt (by omega) (by omega)).2 h3) z
  refine b76_14 (e36 rfl (h.V (ha.1.si hS.1))) (b76_21 ?_)
  refine z_loop (N := sr σ * sc σ) (fun i ls ct1 => nxt l ≤ i ∧ (∃ l6 l7 l8, ls = [.ref 28, .int (nI (nxt l)), .int (nI l.length), .int (nI (kw (kwt σ cv) l)), .int (nI (sr σ * sc σ)), .int (nI i), l6, l7, l8]) ∧ ∃ r, SI σ cv ct0 ct1 l r ∧ BE (sr σ * sc σ) (eli σ cv) (kwt σ cv) (pas σ cv) (fun v => dn v < dn l + (i + 1) * wi2 l) r) ?_ ?_ (sr σ * sc σ - nxt l) (nxt l) _ _ (by omega) ⟨Nat.le_refl _, ⟨_, _, _, rfl⟩, r, hS, hB⟩
  · rintro x _ ct1 hx ⟨hi, ⟨l6, l7, l8, rfl⟩, r1, hS1, hB1⟩ ih
    have zx : zix (nI x) x 36 := zix_nI (by omega) (by decide)
    have hp1 := ha.1.si hS1.1
    refine b76_26 (fun z => ?_) (fun _ => b76_33 (fun z => ?_) (fun _ => ?_))
    · rw [zle (by omega) (by omega)] at z; omega
    · rw [zle (by omega) (by omega)] at z; omega
    have v12 : ct1 12 x = σ 1 x := hp1.2.2.2.1 x (by omega)
    have n1 : sal σ cv l x = σ 3 x := sal_n hN hl hi (by omega) (Or.inl rfl)
    have n2 : sal σ cv l (36 + x) = σ 3 (36 + x) := sal_n hN hl hi (by omega) (Or.inr (Or.inl rfl))
    have n3 : sal σ cv l (72 + x) = σ 3 (72 + x) := sal_n hN hl hi (by omega) (Or.inr (Or.inr rfl))
    obtain ⟨v23, v24, v25⟩ := hS1.2.2.1.1 x (by omega)
    have skip : ¬ eli σ cv x → ∀ y6 y7 y8, RUN X (EV X (d + 5)) 76 (zQ (SQ σ cv D ct0 l)) 26 [.ref 28, .int (nI (nxt l)), .int (nI l.length), .int (nI (kw (kwt σ cv) l)), .int (nI (sr σ * sc σ)), .int (nI x + nI 1), y6, y7, y8] [] (mk D ct1) := fun hne y6 y7 y8 =>
      ih _ _ ⟨by omega, ⟨y6, y7, y8, by rw [nI_add]⟩, r1, hS1, hB1.grow (fun v hv q => Nat.lt_of_lt_of_le q (Nat.add_le_add_left (Nat.mul_le_mul_right _ (by omega)) _)) (fun v hv q => by
        by_cases q2 : dn v < dn l + (x + 1) * wi2 l
        · exact Or.inl q2
        · exact absurd (dn_mid hN hl h3 hx hv (by omega) q) hne)⟩
    have go : eli σ cv x → RUN X (EV X (d + 5)) 76 (zQ (SQ σ cv D ct0 l)) 109 [.ref 28, .int (nI (nxt l)), .int (nI l.length), .int (nI (kw (kwt σ cv) l)), .int (nI (sr σ * sc σ)), .int (nI x), .int (ct1 12 x), .int (ct1 23 x), .int (ct1 24 x)] [] (mk D ct1) := fun he => by
      obtain ⟨a1, a2, a3⟩ := dn_app (x := x) h3
      have hl2 := zokl_app hl h3 hi hx he
      have hok2 := sal_ok (cv := cv) h hl2
      have s2 : sch cv x (nI 1) (ct1 12 x) (nI 0) (sal σ cv l) = sal σ cv (l ++ [x]) := by rw [v12, sal_app]; rfl
      obtain ⟨_, _, ct2, hev, rfl, rfl, g1, g2, g3⟩ := f77 (X := X) (D := D) (ct := u2 ct1 29 l.length (nI x)) (d := d) (x := x) (hb := nI 1) (k := ct1 12 x) (old := nI 0) (cv := cv) (s := sal σ cv l) h (hp1.si fun b hb => u2_n (by omega)) (by rw [u2_n (by decide)]; exact hS1.2.1) (hS1.2.2.1.keep fun b q1 q2 => u2_n (by omega)) hok (hS1.2.2.2.1.keep (u2_n (by decide)) (u2_n (by decide))) hx (Or.inr rfl) (by rw [v12]; exact h.2.2.2.2.2.2.2.1 x (by omega))
      refine b76_109 (zix_nI (j := l.length) h3 (by decide)) hev ?_
      rw [s2] at g2 g3
      have r28 : ct2 28 = ct1 28 := by rw [g1 28 (by omega), u2_n (by decide)]
      have r30 : ct2 30 = ct1 30 := by rw [g1 30 (by omega), u2_n (by decide)]
      have r29 : ∀ i, ct2 29 i = upd (ct1 29) l.length (nI x) i := fun i => by rw [g1 29 (by omega), u2_r]
      have hS2 : SI σ cv ct0 ct2 (l ++ [x]) r1 := ⟨fun b hb => by rw [g1 b (by omega), u2_n (by omega), hS1.1 b hb], by rw [r28]; exact hS1.2.1, g2, g3, fun i hi => by
        rw [r29]
        rw [List.length_append] at hi
        by_cases e : i = l.length
        · subst e; rw [pk_us, getD_app2]
        · have hi : i < l.length + 1 := hi
          rw [pk_un e, getD_app1 (by omega)]; exact hS1.2.2.2.2.1 i (by omega), hS1.2.2.2.2.2.keep r28 r30⟩
      have hB2 : BE (sr σ * sc σ) (eli σ cv) (kwt σ cv) (pas σ cv) (fun v => dn v < dn (l ++ [x])) r1 := by rw [a1]; exact hB1
      obtain ⟨_, _, ct3, hev3, rfl, rfl, r3, hS3, hB3⟩ := hext x ct2 r1 hi hx he hS2 hB2
      -- behind the call
      have back : RUN X (EV X (d + 5)) 76 (zQ (SQ σ cv D ct0 l)) 156 [.ref 28, .int (nI (nxt l)), .int (nI l.length), .int (nI (kw (kwt σ cv) l)), .int (nI (sr σ * sc σ)), .int (nI x), .int (ct1 12 x), .int (ct1 23 x), .int (ct1 24 x)] [] (mk D ct3) := by
        obtain ⟨_, _, ct4, hev4, rfl, rfl, k1, k2, k3⟩ := f77 (X := X) (D := D) (ct := ct3) (d := d) (x := x) (hb := nI 0) (k := ct1 23 x) (old := ct1 24 x) (cv := cv) (s := sal σ cv (l ++ [x])) h (ha.1.si hS3.1) hS3.2.1 hS3.2.2.1 hok2 hS3.2.2.2.1 hx (Or.inl rfl) (by rw [v23, n1]; exact (h.now.1 x (by omega)).1)
        refine b76_156 hev4 (b76_167 (ih _ _ ⟨by omega, ⟨_, _, _, by rw [nI_add]⟩, r3, ?_, ?_⟩))
        · have sb : sch cv x (nI 0) (ct1 23 x) (ct1 24 x) (sal σ cv (l ++ [x])) = sal σ cv l := by
            rw [v23, v24, sal_app]
            refine sch_back (by omega) fun hc => ?_
            subst hc
            rw [n3]
            exact he
          rw [sb] at k2 k3
          refine ⟨fun b hb => by rw [k1 b (by omega), hS3.1 b hb], by rw [k1 28 (by omega)]; exact hS3.2.1, k2, k3, fun i hi => ?_, hS3.2.2.2.2.2.keep (k1 28 (by omega)) (k1 30 (by omega))⟩
          rw [k1 29 (by omega), hS3.2.2.2.2.1 i (by rw [List.length_append]; omega), getD_app1 hi]
        · have e : dn l + (x + 1) * wi2 l + wi2 l = dn l + (x + 1 + 1) * wi2 l := by rw [Nat.succ_mul (x + 1)]; omega
          rw [a1, a2, e] at hB3
          exact hB3
      cases cv
      · refine b76_127 (fun _ => ?_) (fun z => absurd hS2.2.1 z)
        refine b76_146 (e46 (by rw [v12]; exact h.2.2.2.2.2.2.2.1 x (by omega))) (b76_152 ?_ back)
        have e : nI (kw (kwt σ false) l) + nI (zz (ct1 12 x)) = nI (kw (kwt σ false) (l ++ [x])) := by rw [nI_add, kw_app h3, v12]; rfl
        rw [e, nI_add, nI_add]
        exact hev3
      · refine b76_127 (fun z => absurd (hS2.2.1.symm.trans z) (by decide)) (fun _ => ?_)
        refine b76_142 ?_ back
        rw [nI_add, nI_add]
        rw [kwt_t] at hev3
        exact hev3
    cases cv
    · refine b76_40 zx zx zx (fun _ => b76_99 (fun q => b76_106 (skip (fun z => z ?_) _ _ _)) (fun q => go (fun z => q ?_))) (fun z => absurd hS1.2.1 z)
      · rw [v23, n1, v12] at q; exact q
      · rw [v23, n1, v12]; exact z
    · refine b76_40 zx zx zx (fun z => absurd (hS1.2.1.symm.trans z) (by decide)) (fun _ => b76_83 zx (fun q => go ?_) (fun q => b76_96 (skip (fun z => q ?_) _ _ _)))
      · rw [v25, n3] at q; exact q
      · rw [v25, n3]; exact z
  · rintro _ ct1 ⟨hi, ⟨l6, l7, l8, rfl⟩, r1, hS1, hB1⟩
    refine b76_26 (fun _ => b76_173 (zQ_of ⟨rfl, rfl, r1, hS1, hB1.grow (fun v hv q => ?_) (fun v hv q => ?_)⟩)) (fun z => absurd ((zle (by omega) (by omega)).2 (Nat.le_refl _)) z)
    · have hw : (sr σ * sc σ + 1) * wi2 l ≤ wid l := by
        rcases l with _ | ⟨a, _ | ⟨b, _ | ⟨c, _⟩⟩⟩
        · show (sr σ * sc σ + 1) * 4096 ≤ 262144; omega
        · show (sr σ * sc σ + 1) * 64 ≤ 4096; omega
        · show (sr σ * sc σ + 1) * 1 ≤ 64; omega
        · simp at h3; omega
      omega
    · by_cases q2 : dn v < dn l + (sr σ * sc σ + 1) * wi2 l
      · exact Or.inl q2
      · exact (dn_end hN hl h3 hv (by omega) q).elim
end
