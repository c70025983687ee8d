/-! The reference: items of its text. -/
/-- what is drawn, as the reference holds it -/
def RS (p : (Nat → Int32) × Bool) (ct : zM) : Prop := (∀ j, j < 81 → ct 35 j = p.1 j) ∧ ct 33 12 = if p.2 = true then nI 1 else nI 0
section
variable {X : Nat × (Nat → Int32)} {D : zD} {ct : zM} {d n a m : Nat} {t : Nat → Nat} {p : (Nat → Int32) × Bool}
theorem r114 {Q : Option Value → xHp → Prop} (h : TM n t ct) (hm : m ≤ 4) : ∀ r k a (pre : List Nat) ct1, k + r = m → pre.length = k → a + 3 * r ≤ 250 → GN ct ct1 → ct1 33 13 = nI a → NM ct1 pre →
    (tk n t r a = none → ∀ ct2, GN ct ct2 → Q (some (.int (nI 0))) (mk (zDm D) ct2)) →
    (∀ l e, tk n t r a = some (l, e) → ∀ ct2, GN ct ct2 → ct2 33 13 = nI e → NM ct2 (pre ++ l) → Q (some (.int (nI 1))) (mk (zDm D) ct2)) →
    ∀ l3 l4, RUN X (EV X (d + 1)) 114 Q 2 [.ref 33, .int (nI m), .int (nI k), l3, l4] [] (mk (zDm D) ct1) := by
  intro r
  induction r with
  | zero =>
    intro k a pre ct1 hk hp ha g1 g2 g3 q0 q1 l3 l4
    have hk : k = m := hk
    subst hk
    exact b114_2 (fun _ => b114_127 (q1 [] a rfl ct1 g1 g2 (by rw [List.append_nil]; exact g3))) (fun z => absurd ((zle (by omega) (by omega)).2 (Nat.le_refl _)) z)
  | succ r ih =>
    intro k a pre ct1 hk hp ha g1 g2 g3 q0 q1 l3 l4
    refine b114_2 (fun z => ?_) (fun _ => b114_7 ?_)
    · rw [zle (by omega) (by omega)] at z; omega
    have er : m - k - 1 = r := by omega
    refine r114_num h hm (by omega) (by omega) g1 g2 (fun v b ct2 x4 hn hb k1 k2 k3 => ?_) (fun hn ct2 k1 => q0 ?_ ct2 k1)
    · rw [er] at hb
      have hb1 := pnu_le hn
      refine b114_104 (zix_nI (j := k) (by omega) (by decide)) ?_
      rw [nI_add]
      refine ih (k + 1) (b + 1) (pre ++ [v]) _ (by omega) (by rw [List.length_append]; show pre.length + 1 = k + 1; omega) (by omega) ⟨fun c z1 z2 => by rw [u2_n z1, u2_n z2, k1.1 c z1 z2], fun i z1 => by rw [u2_r, pk_un z1, u2_n (by decide), k1.2 i z1]⟩ (by rw [u2_r, pk_us, k2, nI_add]) (fun j hj => ?_) (fun hne => q0 ?_) (fun l e hl => ?_) _ _
      · rw [List.length_append] at hj
        have hj : j < pre.length + 1 := hj
        rw [u2_n (by decide), u2_r, getD_app hj]
        by_cases e : j = k
        · subst e; rw [pk_us, if_neg (by omega)]
        · rw [pk_un e, if_pos (by omega), k3]; exact g3 j (by omega)
      · rw [tk, hn]; dsimp only; rw [if_pos hb, hne]
      · intro ct3 z1 z2 z3
        refine q1 (v :: l) e ?_ ct3 z1 z2 ?_
        · rw [tk, hn]; dsimp only; rw [if_pos hb, hl]
        · rw [List.append_assoc] at z3; exact z3
    · rw [er] at hn
      rcases hn with hn | ⟨v, b, hn, hb⟩
      · rw [tk, hn]
      · rw [tk, hn]; dsimp only; rw [if_neg hb]
theorem e114 (h : TM n t ct) (hm : 1 ≤ m ∧ m ≤ 4) (ha : a ≤ 210) (h13 : ct 33 13 = nI a) : CE X (d + 2) 114 [.ref 33, .int (nI m)] (zDm D) ct (fun v D' ct' => zDm D = D' ∧ GN ct ct' ∧ ((tk n t m a = none ∧ v = some (.int (nI 0))) ∨ ∃ l e, tk n t m a = some (l, e) ∧ v = some (.int (nI 1)) ∧ ct' 33 13 = nI e ∧ NM ct' l)) := by
  refine CE_of (Nat.le_of_ble_eq_true rfl) (b114_0 ?_)
  exact r114 h hm.2 m 0 a [] ct (Nat.zero_add _) rfl (by omega) (GN.r ct) h13 (fun j hj => absurd hj (Nat.not_lt_zero _)) (fun hn ct2 k => zQ_of ⟨rfl, k, Or.inl ⟨hn, rfl⟩⟩) (fun l e hl ct2 k z1 z2 => zQ_of ⟨rfl, k, Or.inr ⟨l, e, hl, rfl, z1, z2⟩⟩) _ _
/-- what is promised of an item: its letter c, its numbers from a on -/
def PI (n : Nat) (t : Nat → Nat) (p : (Nat → Int32) × Bool) (c a : Nat) (ct : zM) (D : zD) : Option Value → zD → zM → Prop := fun v D' ct' => zDm D = D' ∧ GR ct ct' ∧ (((match pns n t 4 a with
    | none => none
    | some (l, e) => match ptk p c l with
      | none => none
      | some q => some (q, e)) = none ∧ v = some (.int (nI 0))) ∨ ∃ q e, (match pns n t 4 a with
    | none => none
    | some (l, e) => match ptk p c l with
      | none => none
      | some q => some (q, e)) = some (q, e) ∧ v = some (.int (nI 1)) ∧ RS q ct' ∧ ct' 33 13 = nI e)
/-- from so many numbers to what the item draws -/
theorem pi_n {c : Nat} (hm : 1 ≤ m ∧ m ≤ 4) (ho : ∀ l : List Nat, l.length ≠ m → ptk p c l = none) (h : tk n t m a = none) : (match pns n t 4 a with
    | none => none
    | some (l, e) => match ptk p c l with
      | none => none
      | some q => some (q, e)) = (none : Option (((Nat → Int32) × Bool) × Nat)) := by
  obtain ⟨r, rfl⟩ : ∃ r, m = r + 1 := ⟨m - 1, by omega⟩
  rw [tk_pns r 4 a (by omega)] at h
  rcases e : pns n t 4 a with _ | ⟨l, b⟩
  · rfl
  · rw [e] at h
    dsimp only at h ⊢
    rw [ho l]
    intro hl
    rw [if_pos hl] at h
    cases h
theorem pi_y {c : Nat} {l : List Nat} {e : Nat} (hm : 1 ≤ m ∧ m ≤ 4) (h : tk n t m a = some (l, e)) : pns n t 4 a = some (l, e) ∧ l.length = m ∧ ∀ x, x ∈ l → x ≤ 99 := by
  obtain ⟨r, rfl⟩ : ∃ r, m = r + 1 := ⟨m - 1, by omega⟩
  rw [tk_pns r 4 a (by omega)] at h
  rcases e2 : pns n t 4 a with _ | ⟨l2, b⟩
  · rw [e2] at h; cases h
  · rw [e2] at h
    dsimp only at h
    by_cases hl : l2.length = r + 1
    · rw [if_pos hl] at h
      cases h
      exact ⟨rfl, hl, (pns_le _ _ _ _ e2).2.2.2.2⟩
    · rw [if_neg hl] at h; cases h
theorem PI.no {c : Nat} {ct' : zM} {l : List Nat} {e : Nat} (hl : pns n t 4 a = some (l, e)) (hn : ptk p c l = none) (g : GR ct ct') : PI n t p c a ct D (some (.int (nI 0))) (zDm D) ct' := ⟨rfl, g, Or.inl ⟨by rw [hl]; dsimp only; rw [hn], rfl⟩⟩
theorem PI.yes {c : Nat} {ct' : zM} {l : List Nat} {e : Nat} {q : (Nat → Int32) × Bool} (hl : pns n t 4 a = some (l, e)) (hq : ptk p c l = some q) (g : GR ct ct') (hr : RS q ct') (h13 : ct' 33 13 = nI e) : PI n t p c a ct D (some (.int (nI 1))) (zDm D) ct' := ⟨rfl, g, Or.inr ⟨q, e, by rw [hl]; dsimp only; rw [hq], rfl, hr, h13⟩⟩
theorem PI.no0 {c : Nat} {ct' : zM} (hm : 1 ≤ m ∧ m ≤ 4) (ho : ∀ l : List Nat, l.length ≠ m → ptk p c l = none) (h : tk n t m a = none) (g : GR ct ct') : PI n t p c a ct D (some (.int (nI 0))) (zDm D) ct' := ⟨rfl, g, Or.inl ⟨pi_n hm ho h, rfl⟩⟩
theorem RS.gn {ct' : zM} (h : RS p ct) (k : GN ct ct') : RS p ct' := ⟨fun j hj => by rw [k.1 35 (by decide) (by decide)]; exact h.1 j hj, by rw [k.2 12 (by decide)]; exact h.2⟩
/-- one cell of what is drawn -/
theorem RS.up {k : Nat} {v : Int32} (h : RS p ct) : RS (upd p.1 k v, p.2) (u2 ct 35 k v) := by
  refine ⟨fun j hj => ?_, by rw [u2_n (by decide)]; exact h.2⟩
  dsimp only
  rw [u2_r]
  by_cases e : j = k
  · subst e; rw [pk_us, pk_us]
  · rw [pk_un e, pk_un e]; exact h.1 j hj
theorem GR.up {ct' : zM} {k : Nat} {v : Int32} (h : GR ct ct') : GR ct (u2 ct' 35 k v) := ⟨fun b h1 h2 h3 => by rw [u2_n h3]; exact h.1 b h1 h2 h3, fun j h1 h2 => by rw [u2_n (by decide)]; exact h.2 j h1 h2⟩
theorem e117 (h : TM n t ct) (ha : a ≤ 210) (h13 : ct 33 13 = nI a) (hr : RS (p.1, false) ct) : CE X (d + 3) 117 [.ref 33] (zDm D) ct (PI n t p 101 a ct D) := by
  have ho : ∀ l : List Nat, l.length ≠ 1 → ptk p 101 l = none := fun l hl => ptk_n1 (Or.inl rfl) hl
  refine CE_of (Nat.le_of_ble_eq_true rfl) ?_
  obtain ⟨v, _, ct1, he, rfl, g, q⟩ := e114 (X := X) (D := D) (d := d) (m := 1) h (by decide) ha h13
  rcases q with ⟨q1, rfl⟩ | ⟨l, e, q1, rfl, q2, q3⟩
  · exact b117_0 he (b117_5 (fun _ => b117_8 (zQ_of (PI.no0 (by decide) ho q1 g.gr))) (fun z => absurd rfl z))
  · obtain ⟨p1, p2, p3⟩ := pi_y (c := 0) (by decide) q1
    obtain ⟨x, rfl⟩ := len1 p2
    have v0 : ct1 42 0 = nI x := q3 0 (by show (0 : Nat) < 1; decide)
    refine b117_0 he (b117_5 (fun z => absurd z (by decide)) (fun _ => b117_10 (zQ_of (PI.yes p1 (q := (upd p.1 8 (nI x), false)) ?_ g.gr.up ?_ ?_))))
    · unfold ptk; dsimp only; rw [if_pos rfl]
    · rw [v0]; exact (hr.gn g).up
    · rw [u2_n (by decide)]; exact q2
theorem e119 (h : TM n t ct) (ha : a ≤ 210) (h13 : ct 33 13 = nI a) (hr : RS (p.1, false) ct) : CE X (d + 3) 119 [.ref 33] (zDm D) ct (PI n t p 108 a ct D) := by
  have ho : ∀ l : List Nat, l.length ≠ 1 → ptk p 108 l = none := fun l hl => ptk_n1 (Or.inr (Or.inr rfl)) hl
  refine CE_of (Nat.le_of_ble_eq_true rfl) ?_
  obtain ⟨v, _, ct1, he, rfl, g, q⟩ := e114 (X := X) (D := D) (d := d) (m := 1) h (by decide) ha h13
  rcases q with ⟨q1, rfl⟩ | ⟨l, e, q1, rfl, q2, q3⟩
  · exact b119_0 he (b119_5 (fun _ => b119_8 (zQ_of (PI.no0 (by decide) ho q1 g.gr))) (fun z => absurd rfl z))
  · obtain ⟨p1, p2, p3⟩ := pi_y (c := 0) (by decide) q1
    obtain ⟨x, rfl⟩ := len1 p2
    have v0 : ct1 42 0 = nI x := q3 0 (by show (0 : Nat) < 1; decide)
    refine b119_0 he (b119_5 (fun z => absurd z (by decide)) (fun _ => b119_10 (zQ_of (PI.yes p1 (q := (upd p.1 2 (nI x), false)) ?_ g.gr.up ?_ ?_))))
    · unfold ptk; dsimp only; rw [if_neg (by decide), if_neg (by omega), if_pos rfl]
    · rw [v0]; exact (hr.gn g).up
    · rw [u2_n (by decide)]; exact q2
theorem e118 (h : TM n t ct) (ha : a ≤ 210) (h13 : ct 33 13 = nI a) (hr : RS (p.1, false) ct) : CE X (d + 3) 118 [.ref 33] (zDm D) ct (PI n t p 119 a ct D) := by
  have ho : ∀ l : List Nat, l.length ≠ 1 → ptk p 119 l = none := fun l hl => ptk_n1 (Or.inr (Or.inl rfl)) hl
  refine CE_of (Nat.le_of_ble_eq_true rfl) ?_
  obtain ⟨v, _, ct1, he, rfl, g, q⟩ := e114 (X := X) (D := D) (d := d) (m := 1) h (by decide) ha h13
  rcases q with ⟨q1, rfl⟩ | ⟨l, e, q1, rfl, q2, q3⟩
  · exact b118_0 he (b118_5 (fun _ => b118_18 (zQ_of (PI.no0 (by decide) ho q1 g.gr))) (fun z => absurd rfl z))
  · obtain ⟨p1, p2, p3⟩ := pi_y (c := 0) (by decide) q1
    obtain ⟨x, rfl⟩ := len1 p2
    have hx : x ≤ 99 := p3 x (by simp)
    have v0 : ct1 42 0 = nI x := q3 0 (by show (0 : Nat) < 1; decide)
    refine b118_0 he (b118_5 (fun z => absurd z (by decide)) (fun _ => b118_8 (fun z => ?_) (fun z => b118_18 (zQ_of (PI.no p1 ?_ g.gr)))))
    · rw [v0, zle (by omega) (by omega)] at z
      refine b118_20 (zQ_of (PI.yes p1 (q := (upd p.1 7 (nI x), false)) ?_ g.gr.up ?_ ?_))
      · unfold ptk; dsimp only; rw [if_neg (by decide), if_pos ⟨rfl, by omega⟩]
      · rw [v0]; exact (hr.gn g).up
      · rw [u2_n (by decide)]; exact q2
    · rw [v0, zle (by omega) (by omega)] at z
      unfold ptk; dsimp only; rw [if_neg (by decide), if_neg (by omega), if_neg (by decide)]
theorem e120 (h : TM n t ct) (ha : a ≤ 210) (h13 : ct 33 13 = nI a) (hr : RS (p.1, false) ct) : CE X (d + 3) 120 [.ref 33] (zDm D) ct (PI n t p 103 a ct D) := by
  have ho : ∀ l : List Nat, l.length ≠ 4 → ptk p 103 l = none := fun l hl => ptk_n4 hl
  refine CE_of (Nat.le_of_ble_eq_true rfl) ?_
  obtain ⟨v, _, ct1, he, rfl, g, q⟩ := e114 (X := X) (D := D) (d := d) (m := 4) h (by decide) ha h13
  rcases q with ⟨q1, rfl⟩ | ⟨l, e, q1, rfl, q2, q3⟩
  · exact b120_0 he (b120_5 (fun _ => b120_40 (zQ_of (PI.no0 (by decide) ho q1 g.gr))) (fun z => absurd rfl z))
  · obtain ⟨p1, p2, p3⟩ := pi_y (c := 0) (by decide) q1
    obtain ⟨x, y, z, w, rfl⟩ := len4 p2
    have hx : x ≤ 99 := p3 x (by simp)
    have hy : y ≤ 99 := p3 y (by simp)
    have hz : z ≤ 99 := p3 z (by simp)
    have hw : w ≤ 99 := p3 w (by simp)
    have v0 : ct1 42 0 = nI x := q3 0 (by show (0 : Nat) < 4; decide)
    have v1 : ct1 42 1 = nI y := q3 1 (by show (1 : Nat) < 4; decide)
    have v2 : ct1 42 2 = nI z := q3 2 (by show (2 : Nat) < 4; decide)
    have v3 : ct1 42 3 = nI w := q3 3 (by show (3 : Nat) < 4; decide)
    refine b120_0 he (b120_5 (fun z => absurd z (by decide)) (fun _ => b120_8 (fun s => ?_) (fun s => b120_40 (zQ_of (PI.no p1 ?_ g.gr)))))
    · rw [v0, v1, v2, v3, nI_add, nI_add, nI_add, zeq (by omega) (by omega)] at s
      obtain ⟨_, _, ct2, he2, rfl, rfl, k1, k2⟩ := e106 (X := X) (D := D) (ct := ct1) (d := d + 1) (a0 := 42) (a2 := 35) (n0 := 4) (n2 := 81) (i := 0) (j := 3) (m := 4) rfl rfl (by decide) (by decide) (by decide) (by decide) (by decide)
      refine b120_42 he2 (b120_56 (zQ_of (PI.yes p1 (q := (upd (upd (upd (upd p.1 3 (nI x)) 4 (nI y)) 5 (nI z)) 6 (nI w), false)) ?_ ?_ ⟨fun j hj => ?_, ?_⟩ ?_)))
      · unfold ptk; dsimp only; rw [if_pos ⟨rfl, s⟩]
      · exact g.gr.t ⟨fun b _ _ h3 => k1 b h3, fun j _ _ => by rw [k1 33 (by decide)]⟩
      · rw [k2]
        dsimp only
        by_cases e6 : j = 6
        · subst e6; rw [if_pos (by decide), pk_us]; exact v3
        rw [pk_un e6]
        by_cases e5 : j = 5
        · subst e5; rw [if_pos (by decide), pk_us]; exact v2
        rw [pk_un e5]
        by_cases e4 : j = 4
        · subst e4; rw [if_pos (by decide), pk_us]; exact v1
        rw [pk_un e4]
        by_cases e3 : j = 3
        · subst e3; rw [if_pos (by decide), pk_us]; exact v0
        rw [pk_un e3, if_neg (by omega)]
        exact (hr.gn g).1 j hj
      · rw [k1 33 (by decide)]; exact (hr.gn g).2
      · rw [k1 33 (by decide)]; exact q2
    · rw [v0, v1, v2, v3, nI_add, nI_add, nI_add, zeq (by omega) (by omega)] at s
      unfold ptk; dsimp only; rw [if_neg (fun q => s q.2)]
theorem e115 {c : Nat} {x1 : Int32} (hx1 : (x1 = nI 1 ∧ c = 112) ∨ (x1 = nI 0 ∧ c = 105)) (hw : PW p.1) (h : TM n t ct) (ha : a ≤ 210) (h13 : ct 33 13 = nI a) (hr : RS (p.1, false) ct) : CE X (d + 3) 115 [.ref 33, .int x1] (zDm D) ct (PI n t p c a ct D) := by
  have hc2 : c = 112 ∨ c = 105 := hx1.elim (fun z => Or.inl z.2) (fun z => Or.inr z.2)
  have ho : ∀ l : List Nat, l.length ≠ 2 → ptk p c l = none := fun l hl => ptk_n2 (Or.inr hc2) hl
  obtain ⟨r, m, hr0, hm0, hr2, hm2, erc⟩ := hw.V
  have hrc := prc_le hw
  refine CE_of (Nat.le_of_ble_eq_true rfl) ?_
  obtain ⟨v, _, ct1, he, rfl, g, q⟩ := e114 (X := X) (D := D) (d := d) (m := 2) h (by decide) ha h13
  rcases q with ⟨q1, rfl⟩ | ⟨l, e, q1, rfl, q2, q3⟩
  · exact b115_0 he (b115_5 (fun _ => b115_26 (zQ_of (PI.no0 (by decide) ho q1 g.gr))) (fun z => absurd rfl z))
  · obtain ⟨p1, p2, p3⟩ := pi_y (c := 0) (by decide) q1
    obtain ⟨x, y, rfl⟩ := len2 p2
    have hx : x ≤ 99 := p3 x (by simp)
    have hy : y ≤ 99 := p3 y (by simp)
    have v0 : ct1 42 0 = nI x := q3 0 (by show (0 : Nat) < 2; decide)
    have v1 : ct1 42 1 = nI y := q3 1 (by show (1 : Nat) < 2; decide)
    have r0 : ct1 35 0 = nI r := ((hr.gn g).1 0 (by decide)).trans hr0
    have r1 : ct1 35 1 = nI m := ((hr.gn g).1 1 (by decide)).trans hm0
    have no : ¬ (x < prc p.1 ∧ y < 8) → ptk p c [x, y] = none := fun q => by
      unfold ptk; dsimp only
      rw [if_neg (by omega), if_neg (fun w => q w.2)]
    have e116 : EV X (d + 2) 116 [.ref 33] (mk (zDm D) ct1) (some (.int (yn (x < prc p.1)))) (mk (zDm D) ct1) := by
      unfold yn
      refine EV_intro (Nat.le_of_ble_eq_true rfl) (b116_0 (fun z => b116_26 ⟨?_, rfl⟩) (fun z => b116_22 ⟨?_, rfl⟩))
      · rw [r0, r1, v0, pk_mul, ← erc, zle (by omega) (by omega)] at z; rw [if_neg (by omega)]
      · rw [r0, r1, v0, pk_mul, ← erc, zle (by omega) (by omega)] at z; rw [if_pos (by omega)]
    refine b115_0 he (b115_5 (fun z => absurd z (by decide)) (fun _ => b115_8 e116 (b115_12 (fun z => b115_26 (zQ_of (PI.no p1 (no fun w => ?_) g.gr))) (fun z => ?_))))
    · rw [yn_0] at z; exact z w.1
    rw [yn_0, Classical.not_not] at z
    refine b115_15 (fun z7 => ?_) (fun z7 => b115_26 (zQ_of (PI.no p1 (no fun w => ?_) g.gr)))
    · rw [v1, zle (by omega) (by omega)] at z7
      have hy8 : y < 8 := by omega
      rcases hx1 with ⟨rfl, rfl⟩ | ⟨rfl, rfl⟩
      · refine b115_28 (fun w => absurd w (by decide)) (fun _ => b115_32 (j51 := 9 + x) ⟨by rw [v0, nI_add], by omega, by decide⟩ (j71 := 45 + x) ⟨by rw [v0, nI_add], by omega, by decide⟩ (zQ_of (PI.yes p1 (q := (upd (upd p.1 (9 + x) (nI y)) (45 + x) (nI y), false)) ?_ g.gr.up.up ?_ ?_)))
        · unfold ptk; dsimp only; rw [if_neg (by omega), if_pos ⟨Or.inl rfl, z, hy8⟩, if_pos rfl]
        · rw [v1]; exact (hr.gn g).up.up
        · rw [u2_n (by decide), u2_n (by decide)]; exact q2
      · refine b115_28 (fun _ => b115_52 (j71 := 45 + x) ⟨by rw [v0, nI_add], by omega, by decide⟩ (zQ_of (PI.yes p1 (q := (upd p.1 (45 + x) (nI y), false)) ?_ g.gr.up ?_ ?_))) (fun w => absurd rfl w)
        · unfold ptk; dsimp only; rw [if_neg (by omega), if_pos ⟨Or.inr rfl, z, hy8⟩, if_neg (by omega)]
        · rw [v1]; exact (hr.gn g).up
        · rw [u2_n (by decide)]; exact q2
    · rw [v1, zle (by omega) (by omega)] at z7; omega
theorem e113 (h : TM n t ct) (ha : a ≤ 210) (h13 : ct 33 13 = nI a) (hr : RS p ct) : CE X (d + 3) 113 [.ref 33] (zDm D) ct (PI n t p 118 a ct D) := by
  have ho : ∀ l : List Nat, l.length ≠ 2 → ptk p 118 l = none := fun l hl => ptk_n2 (Or.inl rfl) hl
  refine CE_of (Nat.le_of_ble_eq_true rfl) (b113_0 (fun z => b113_53 (zQ_of ?_)) (fun z => ?_))
  · have hb : p.2 = false := by
      have := hr.2
      cases e : p.2
      · rfl
      · rw [e, if_pos rfl, z] at this; exact absurd this (by decide)
    refine ⟨rfl, GR.r ct, Or.inl ⟨?_, rfl⟩⟩
    rcases e : pns n t 4 a with _ | ⟨l, b⟩
    · rfl
    · dsimp only
      have : ptk p 118 l = none := by
        by_cases h2 : l.length = 2
        · obtain ⟨x, y, rfl⟩ := len2 h2
          unfold ptk; dsimp only
          rw [if_pos rfl, if_neg (fun w => by rw [hb] at w; exact absurd w.1 (by decide))]
        · exact ho l h2
      rw [this]
  have hb : p.2 = true := by
    have := hr.2
    cases e : p.2
    · rw [e, if_neg (by decide)] at this; exact absurd this z
    · rfl
  obtain ⟨v, _, ct1, he, rfl, g, q⟩ := e114 (X := X) (D := D) (d := d) (m := 2) h (by decide) ha h13
  rcases q with ⟨q1, rfl⟩ | ⟨l, e, q1, rfl, q2, q3⟩
  · exact b113_7 he (b113_12 (fun _ => b113_53 (zQ_of (PI.no0 (by decide) ho q1 g.gr))) (fun z => absurd rfl z))
  · obtain ⟨p1, p2, p3⟩ := pi_y (c := 0) (by decide) q1
    obtain ⟨x, y, rfl⟩ := len2 p2
    have hx : x ≤ 99 := p3 x (by simp)
    have hy : y ≤ 99 := p3 y (by simp)
    have v0 : ct1 42 0 = nI x := q3 0 (by show (0 : Nat) < 2; decide)
    have v1 : ct1 42 1 = nI y := q3 1 (by show (1 : Nat) < 2; decide)
    have no : ¬ ((2 ≤ x ∧ x ≤ 6) ∧ (2 ≤ y ∧ y ≤ 6)) → ptk p 118 [x, y] = none := fun q => by
      unfold ptk; dsimp only
      rw [if_pos rfl, if_neg (fun w => q w.2)]
    refine b113_7 he (b113_12 (fun z => absurd z (by decide)) (fun _ => b113_15 (e108n (by decide) (by decide)) (b113_31 (fun z => b113_53 (zQ_of (PI.no p1 (no fun w => ?_) g.gr))) (fun z => ?_))))
    · rw [yn_0, v0, zle (by omega) (by omega), zle (by omega) (by omega)] at z; exact z w.1
    rw [yn_0, Classical.not_not, v0, zle (by omega) (by omega), zle (by omega) (by omega)] at z
    refine b113_34 (e108n (by decide) (by decide)) (b113_50 (fun z2 => b113_53 (zQ_of (PI.no p1 (no fun w => ?_) g.gr))) (fun z2 => ?_))
    · rw [yn_0, v1, zle (by omega) (by omega), zle (by omega) (by omega)] at z2; exact z2 w.2
    rw [yn_0, Classical.not_not, v1, zle (by omega) (by omega), zle (by omega) (by omega)] at z2
    refine b113_55 (zQ_of (PI.yes p1 (q := (upd (upd p.1 0 (nI x)) 1 (nI y), true)) ?_ g.gr.up.up ?_ ?_))
    · unfold ptk; dsimp only; rw [if_pos rfl, if_pos ⟨hb, z, z2⟩]
    · rw [v0, v1]
      have := (hr.gn g).up (k := 0) (v := nI x) |>.up (k := 1) (v := nI y)
      rw [hb] at this
      exact this
    · rw [u2_n (by decide), u2_n (by decide)]; exact q2
end
