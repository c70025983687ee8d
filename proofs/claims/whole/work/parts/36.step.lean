/-! The class's search: one cell changed and looked at again. -/
theorem zsee_loc {r c j : Nat} {sh is ag hu is' ag' hu' : Nat → Int32} {w : Int32} (h1 : hu j = hu' j) (h2 : is j = is' j) (h3 : j + c < r * c → is (j + c) = is' (j + c)) (h4 : j + c < r * c → ag (j + c) = ag' (j + c)) (h5 : 0 < j % c → is (j - 1) = is' (j - 1)) (h6 : j % c < c - 1 → is (j + 1) = is' (j + 1)) : zsee r c sh is ag hu w j = zsee r c sh is' ag' hu' w j := by
  have a1 : (j + c < r * c ∧ is (j + c) = nI 4) ↔ (j + c < r * c ∧ is' (j + c) = nI 4) := and_congr_right fun p => by rw [h3 p]
  have a2 : (0 < j % c ∧ is (j - 1) = nI 4) ↔ (0 < j % c ∧ is' (j - 1) = nI 4) := and_congr_right fun p => by rw [h5 p]
  have a3 : (j % c < c - 1 ∧ is (j + 1) = nI 4) ↔ (j % c < c - 1 ∧ is' (j + 1) = nI 4) := and_congr_right fun p => by rw [h6 p]
  have a4 : (j + c < r * c ∧ is (j + c) = nI 5 ∧ nI 3 ≤ ag (j + c)) ↔ (j + c < r * c ∧ is' (j + c) = nI 5 ∧ nI 3 ≤ ag' (j + c)) := and_congr_right fun p => by rw [h3 p, h4 p]
  unfold zsee zsmoke
  rw [h1, h2]
  simp only [a1, a2, a3, a4]
theorem sp_loc {σ : zM} {s s' : Nat → Int32} {x y : Nat} (hy : y < sr σ * sc σ) (hN : sr σ * sc σ ≤ 36) (hx : x < 36) (h : ∀ k, k ≠ x → k ≠ 36 + x → k ≠ 72 + x → s' k = s k) (h1 : y ≠ x) (h2 : y + sc σ ≠ x) (h3 : y ≠ x + 1) (h4 : y + 1 ≠ x) : sp σ s' y = sp σ s y := by
  unfold sp zP
  have e : zsee (sr σ) (sc σ) (σ 1) s' (fun i => s' (36 + i)) (fun i => s' (72 + i)) (s' 108) y = zsee (sr σ) (sc σ) (σ 1) s (fun i => s (36 + i)) (fun i => s (72 + i)) (s 108) y := by
    rw [h 108 (by omega) (by omega) (by omega)]
    refine zsee_loc (h _ (by omega) (by omega) (by omega)) (h _ (by omega) (by omega) (by omega)) (fun q => h _ (by omega) (by omega) (by omega)) (fun q => h _ (by omega) (by omega) (by omega)) (fun q => ?_) (fun q => ?_)
    · have := zleft q
      exact h _ (by omega) (by omega) (by omega)
    · have := zright hy q
      exact h _ (by omega) (by omega) (by omega)
  rw [e, h 109 (by omega) (by omega) (by omega)]
theorem sch_n {cv : Bool} {x i : Nat} {hb k old : Int32} {s : Nat → Int32} (h1 : i ≠ x) (h2 : i ≠ 36 + x) (h3 : i ≠ 72 + x) : sch cv x hb k old s i = s i := by
  unfold sch
  cases cv
  · exact spl_n h1 h2
  · exact pk_un h3
theorem sch_ok {N x : Nat} {cv : Bool} {hb k old : Int32} {s : Nat → Int32} (h : zOk N s) (hx : x < 36) (hb1 : zb hb) (hk : zk k) : zOk N (sch cv x hb k old s) := by
  unfold sch
  cases cv
  · exact spl_ok h hx hk
  · refine ⟨fun j hj => ?_, ?_⟩
    · show zk (upd s (72 + x) hb j) ∧ zb (upd s (72 + x) hb (72 + j))
      rw [pk_un (by omega)]
      by_cases e : j = x
      · subst e; rw [pk_us]; exact ⟨(h.1 j hj).1, hb1⟩
      · rw [pk_un (by omega)]; exact h.1 j hj
    · show ∃ e, e < N ∧ upd s (72 + x) hb 109 = nI e
      rw [pk_un (by omega)]; exact h.2
theorem zJ.keep {ct ct' : zM} {g : Nat → Nat} {n : Nat} (h : zJ ct g n) (h1 : ct' 26 = ct 26) (h2 : ct' 27 = ct 27) : zJ ct' g n := by
  unfold zJ at *
  rw [h1, h2]
  exact h
def bcv (cv : Bool) : Int32 := if cv = true then nI 1 else nI 0
section
variable {X : Nat × (Nat → Int32)} {D : zD} {ct σ : zM} {d : Nat}
theorem f52 {g : Nat → Nat} {s : Nat → Int32} {x : Int32} (h : WF σ) (hp : CP σ ct) (hm : zTm ct 22 s) (hk : zOk (sr σ * sc σ) s) (hJ : zJ ct g (sr σ * sc σ)) (hg : ∀ y, y < sr σ * sc σ → g y ≤ 20) : CE X (d + 4) 52 [.ref 26, .int x] D ct (fun v D' ct' => v = none ∧ D = D' ∧ (∀ b, b ≠ 26 → b ≠ 27 → ct' b = ct b) ∧ zJ ct' (fun y => if nI y = x then sp σ s y else g y) (sr σ * sc σ)) := by
  obtain ⟨t1, t2⟩ := zTr_of h hp hm hk
  have hN := h.N
  by_cases hx : ∃ j, j < sr σ * sc σ ∧ x = nI j
  · obtain ⟨j, hj, rfl⟩ := hx
    refine (e52 t1 hj hJ (hg j hj)).mono fun v D' ct' q => ?_
    obtain ⟨q1, q2, q3, q4, -⟩ := q
    refine ⟨q1, q2, q3, q4.congr fun y hy => ?_⟩
    by_cases hy2 : y = j
    · subst hy2; rw [if_pos rfl, if_pos rfl, t2 y hy]
    · rw [if_neg hy2, if_neg (fun z => hy2 ((zeq (by omega) (by omega)).1 z))]
  · exact ⟨none, D, ct, e52n t1.1 hx, rfl, rfl, fun _ _ _ => rfl, hJ.congr fun y hy => by rw [if_neg (fun z => hx ⟨y, hy, z.symm⟩)]⟩
theorem r77 {s s' : Nat → Int32} {x : Nat} {hb k old : Int32} {P : Option Value → zD → zM → Prop} (h : WF σ) (hx : x < sr σ * sc σ) (hs : ∀ i, i ≠ x → i ≠ 36 + x → i ≠ 72 + x → s' i = s i) (hk' : zOk (sr σ * sc σ) s') {ct1 : zM} (hp : CP σ ct1) (hm : zTm ct1 22 s') (hJ : zJ ct1 (fun y => if nI y = nI x then sp σ s' y else sp σ s y) (sr σ * sc σ))
    (hq : ∀ ct2, (∀ b, b ≠ 26 → b ≠ 27 → ct2 b = ct1 b) → zTm ct2 22 s' → zJ ct2 (sp σ s') (sr σ * sc σ) → P none D ct2) : RUN X (EV X (d + 4)) 77 (zQ P) 51 [.ref 28, .int (nI x), .int hb, .int k, .int old] [] (mk D ct1) := by
  have hN := h.N
  have hc : ct1 11 1 = nI (sc σ) := hp.2.1.trans h.2.1.1
  have hc2 := h.2.1.2
  have spb : ∀ {s : Nat → Int32} {y : Nat}, sp σ s y ≤ 20 := fun {_ _} => sp_le
  obtain ⟨_, _, ct2, he, rfl, rfl, g1, g2⟩ := f52 (X := X) (D := D) (d := d) (x := nI x - ct1 11 1) h hp hm hk' hJ (fun y _ => by split <;> exact sp_le)
  refine b77_51 he ?_
  have tk : ∀ {ct2 ct3 : zM}, (∀ b, b ≠ 26 → b ≠ 27 → ct3 b = ct2 b) → CP σ ct2 → zTm ct2 22 s' → CP σ ct3 ∧ zTm ct3 22 s' := fun {ct2 ct3} k p m => ⟨p.lk fun b hb => k b (by omega) (by omega), m.keep fun b q1 q2 => k b (by omega) (by omega)⟩
  obtain ⟨p2, m2⟩ := tk g1 hp hm
  obtain ⟨_, _, ct3, he3, rfl, rfl, g3, g4⟩ := f52 (X := X) (D := D) (d := d) (x := nI x - nI 1) h p2 m2 hk' g2 (fun y _ => by (repeat' split) <;> exact sp_le)
  refine b77_67 he3 ?_
  obtain ⟨p3, m3⟩ := tk g3 p2 m2
  obtain ⟨_, _, ct4, he4, rfl, rfl, g5, g6⟩ := f52 (X := X) (D := D) (d := d) (x := nI x + nI 1) h p3 m3 hk' g4 (fun y _ => by (repeat' split) <;> exact sp_le)
  refine b77_77 he4 (b77_87 (zQ_of (hq ct4 (fun b q1 q2 => by rw [g5 b q1 q2, g3 b q1 q2, g1 b q1 q2]) (tk g5 p3 m3).2 (g6.congr fun y hy => ?_))))
  by_cases e1 : nI y = nI x + nI 1
  · rw [if_pos e1]
  rw [if_neg e1]
  by_cases e2 : nI y = nI x - nI 1
  · rw [if_pos e2]
  rw [if_neg e2]
  by_cases e3 : nI y = nI x - ct1 11 1
  · rw [if_pos e3]
  rw [if_neg e3]
  by_cases e4 : nI y = nI x
  · rw [if_pos e4]
  rw [if_neg e4]
  refine (sp_loc hy hN (by omega) hs (fun z => e4 (by rw [z])) (fun z => e3 ?_) (fun z => e1 ?_) (fun z => e2 ?_)).symm
  · rw [hc, ← z, pk_sub (by omega), Nat.add_sub_cancel]
  · rw [z, nI_add]
  · rw [← z, pk_sub (by omega), Nat.add_sub_cancel]
theorem f77 {s : Nat → Int32} {x : Nat} {hb k old : Int32} {cv : Bool} (h : WF σ) (hp : CP σ ct) (hc : ct 28 5 = bcv cv) (hm : zTm ct 22 s) (hk : zOk (sr σ * sc σ) s) (hJ : zJ ct (sp σ s) (sr σ * sc σ)) (hx : x < sr σ * sc σ) (hhb : zb hb) (hkk : zk k) : CE X (d + 5) 77 [.ref 28, .int (nI x), .int hb, .int k, .int old] D ct (fun v D' ct' => v = none ∧ D = D' ∧ (∀ b, ¬ (22 ≤ b ∧ b ≤ 27) → ct' b = ct b) ∧ zTm ct' 22 (sch cv x hb k old s) ∧ zJ ct' (sp σ (sch cv x hb k old s)) (sr σ * sc σ)) := by
  have hN := h.N
  refine CE_of (Nat.le_of_ble_eq_true rfl) ?_
  have hk' : zOk (sr σ * sc σ) (sch cv x hb k old s) := sch_ok hk (by omega) hhb hkk
  refine b77_0 (e30y (d := d + 3) rfl (h.V hp) hx) (b77_8 (fun z => absurd z (by decide)) (fun _ => ?_))
  cases cv
  · refine b77_12 (fun _ => ?_) (fun z => absurd hc z)
    refine b77_32 (e31 (X := X) (d := d + 3) rfl (by omega)) ?_
    have m1 : zTm (u2 (u2 ct 23 x k) 24 x old) 22 (sch false x hb k old s) := zTm_pl hm (by omega)
    have l1 : zLk ct (u2 (u2 ct 23 x k) 24 x old) := fun b hb => by rw [u2_n (by omega), u2_n (by omega)]
    obtain ⟨_, _, ct2, he, rfl, rfl, g1, g2⟩ := f52 (X := X) (D := D) (d := d) (x := nI x) h (hp.lk l1) m1 hk' (hJ.keep (by rw [u2_n (by omega), u2_n (by omega)]) (by rw [u2_n (by omega), u2_n (by omega)])) (fun y _ => sp_le)
    refine b77_43 he ?_
    have l2 : zLk ct ct2 := l1.t fun b hb => g1 b (by omega) (by omega)
    refine r77 h hx (fun i q1 q2 q3 => sch_n q1 q2 q3) hk' (hp.lk l2) (m1.keep fun b q1 q2 => g1 b (by omega) (by omega)) g2 fun ct3 k1 k2 k3 => ⟨rfl, rfl, fun b hb => by rw [k1 b (by omega) (by omega), l2 b hb], k2, k3⟩
  · refine b77_12 (fun z => absurd (hc.symm.trans z) (by decide)) (fun _ => ?_)
    have m1 : zTm (u2 ct 25 x hb) 22 (sch true x hb k old s) := zTm_hu hm (by omega)
    have l1 : zLk ct (u2 ct 25 x hb) := fun b hb => by rw [u2_n (by omega)]
    obtain ⟨_, _, ct2, he, rfl, rfl, g1, g2⟩ := f52 (X := X) (D := D) (d := d) (x := nI x) h (hp.lk l1) m1 hk' (hJ.keep (by rw [u2_n (by omega)]) (by rw [u2_n (by omega)])) (fun y _ => sp_le)
    refine b77_19 (zix_nI (by omega) (by decide)) hhb he ?_
    have l2 : zLk ct ct2 := l1.t fun b hb => g1 b (by omega) (by omega)
    refine r77 h hx (fun i q1 q2 q3 => sch_n q1 q2 q3) hk' (hp.lk l2) (m1.keep fun b q1 q2 => g1 b (by omega) (by omega)) g2 fun ct3 k1 k2 k3 => ⟨rfl, rfl, fun b hb => by rw [k1 b (by omega) (by omega), l2 b hb], k2, k3⟩
end
