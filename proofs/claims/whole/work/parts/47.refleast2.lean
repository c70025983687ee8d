/-! The reference: least, canvases, whole. -/
def LSt (σ : zM) (cv : Bool) (ct0 ct : zM) (n m : Nat) : Prop := MS ct0 ct ∧ ∃ r, RM σ cv ct r ∧ BE (sr σ * sc σ) (eli σ cv) (kwt σ cv) (pas σ cv) (BB n m) r
theorem LSt.set {σ ct0 ct : zM} {cv : Bool} {n m k : Nat} {v : Int32} (h : LSt σ cv ct0 ct n m) : LSt σ cv ct0 (u2 ct 44 k v) n m := by
  obtain ⟨h1, r, h2, h3⟩ := h
  exact ⟨h1.of fun b _ _ hb => u2_n hb, r, h2.k (u2_n (by decide)) (u2_n (by decide)), h3⟩
theorem LSt.up {σ ct0 ct : zM} {cv : Bool} {n m n' m' : Nat} (h : LSt σ cv ct0 ct n m) (k : ∀ r, BE (sr σ * sc σ) (eli σ cv) (kwt σ cv) (pas σ cv) (BB n m) r → BE (sr σ * sc σ) (eli σ cv) (kwt σ cv) (pas σ cv) (BB n' m') r) : LSt σ cv ct0 ct n' m' := by
  obtain ⟨h1, r, h2, h3⟩ := h
  exact ⟨h1, r, h2, k r h3⟩
section
variable {X : Nat × (Nat → Int32)} {D : zD} {ct ct0 σ : zM} {d : Nat} {cv : Bool}
theorem c122 (h : WF σ) (ha : MA σ ct0) {n m : Nat} (hL : LSt σ cv ct0 ct n m) : EV X (d + 1) 122 [.ref 33] (mk (zDm D) ct) (some (.int (nI (sr σ * sc σ)))) (mk (zDm D) ct) := e122 h (hL.1.ma ha).mp
theorem r153_c {a b : Nat} {P : Option Value → xHp → Prop} (h : WF σ) (ha : MA σ ct0) (hab : a < b) (hb : b < sr σ * sc σ)
    (hq : ∀ ct2, ct2 44 0 = nI a → ct2 44 1 = nI b → LSt σ cv ct0 ct2 3 ((a + 1) * 4096 + (b + 2) * 64) → RUN X (EV X (d + 7)) 153 P 210 [.ref 33, .int (bcv cv), .int (nI (sr σ * sc σ))] [] (mk (zDm D) ct2)) :
    ∀ ct1, ct1 44 0 = nI a → ct1 44 1 = nI b → ct1 44 2 = nI (b + 1) → LSt σ cv ct0 ct1 3 ((a + 1) * 4096 + (b + 1) * 64) → RUN X (EV X (d + 7)) 153 P 181 [.ref 33, .int (bcv cv), .int (nI (sr σ * sc σ))] [] (mk (zDm D) ct1) := by
  intro ct1 v0 v1 v2 hL
  have hN := h.N
  refine z_loop (N := sr σ * sc σ) (fun i ls ct2 => b < i ∧ ls = [.ref 33, .int (bcv cv), .int (nI (sr σ * sc σ))] ∧ ct2 44 0 = nI a ∧ ct2 44 1 = nI b ∧ ct2 44 2 = nI i ∧ LSt σ cv ct0 ct2 3 ((a + 1) * 4096 + (b + 1) * 64 + (i + 1))) ?_ ?_ (sr σ * sc σ - (b + 1)) (b + 1) _ _ (by omega) ⟨Nat.lt_succ_self b, rfl, v0, v1, v2, hL.up fun r q => bu_3 q (by omega) fun a' b' c' p1 p2 p3 p4 => ar2 hN p1 p2 p3 p4 hb⟩
  · rintro c _ ct2 hc ⟨hbc, rfl, w0, w1, w2, ms, r, hR, hB⟩ ih
    refine b153_181 (fun z => ?_) (fun _ => ?_)
    · rw [w2, zle (by omega) (by omega)] at z; omega
    obtain ⟨_, _, ct3, he, rfl, rfl, ms3, k44, r3, hR3, hB3⟩ := e154 (X := X) (D := D) (d := d) (ct := ct2) (cv := cv) (l := [a, b, c]) (r := r) h ha ⟨⟨hab, hbc, hc⟩, trivial, trivial, trivial⟩ (getD_3 (i := 0) w0 w1 w2) ms hR hB
    refine b153_191 he (b153_197 (ih _ _ ⟨by omega, rfl, ?_, ?_, ?_, LSt.set ⟨ms3, r3, hR3, ?_⟩⟩))
    · rw [u2_r, pk_un (by decide), k44]; exact w0
    · rw [u2_r, pk_un (by decide), k44]; exact w1
    · rw [u2_r, pk_us, k44, w2, nI_add]
    · exact bu8 hB3 (by show (a + 1) * 4096 + (b + 1) * 64 + (c + 1) < _; omega) (by show (a + 1) * 4096 + (b + 1) * 64 + (c + 1) < _; omega) fun a' b' c' p1 p2 p3 p4 => ar3 hN p1 p2 p3 hb hc p4
  · rintro _ ct2 ⟨hbc, rfl, w0, w1, w2, hL2⟩
    exact b153_181 (fun _ => hq ct2 w0 w1 (hL2.up fun r q => bu_3 q (by omega) fun a' b' c' p1 p2 p3 p4 => ar4 hN p1 p2 p3 p4 hb)) (fun z => absurd (by rw [w2]; exact (zle (by omega) (by omega)).2 (Nat.le_refl _)) z)
theorem r153_b {a : Nat} {P : Option Value → xHp → Prop} (h : WF σ) (ha : MA σ ct0) (hx : a < sr σ * sc σ)
    (hq : ∀ ct2, ct2 44 0 = nI a → LSt σ cv ct0 ct2 3 ((a + 2) * 4096) → RUN X (EV X (d + 7)) 153 P 223 [.ref 33, .int (bcv cv), .int (nI (sr σ * sc σ))] [] (mk (zDm D) ct2)) :
    ∀ ct1, ct1 44 0 = nI a → ct1 44 1 = nI (a + 1) → LSt σ cv ct0 ct1 3 ((a + 1) * 4096) → RUN X (EV X (d + 7)) 153 P 157 [.ref 33, .int (bcv cv), .int (nI (sr σ * sc σ))] [] (mk (zDm D) ct1) := by
  intro ct1 v0 v1 hL
  have hN := h.N
  refine z_loop (N := sr σ * sc σ) (fun i ls ct2 => a < i ∧ ls = [.ref 33, .int (bcv cv), .int (nI (sr σ * sc σ))] ∧ ct2 44 0 = nI a ∧ ct2 44 1 = nI i ∧ LSt σ cv ct0 ct2 3 ((a + 1) * 4096 + (i + 1) * 64)) ?_ ?_ (sr σ * sc σ - (a + 1)) (a + 1) _ _ (by omega) ⟨Nat.lt_succ_self a, rfl, v0, v1, hL.up fun r q => bu_3 q (by omega) fun a' b' c' p1 p2 p3 p4 => ar1 hN p1 p2 p3 p4 hx⟩
  · rintro b _ ct2 hb ⟨hab, rfl, w0, w1, hL2⟩ ih
    refine b153_157 (fun z => ?_) (fun _ => b153_167 ?_)
    · rw [w1, zle (by omega) (by omega)] at z; omega
    refine r153_c h ha hab hb (fun ct3 t0 t1 hL3 => b153_210 (ih _ _ ⟨by omega, rfl, ?_, ?_, hL3.set⟩)) _ ?_ ?_ ?_ hL2.set
    · rw [u2_r, pk_un (by decide)]; exact t0
    · rw [u2_r, pk_us, t1, nI_add]
    · rw [u2_r, pk_un (by decide)]; exact w0
    · rw [u2_r, pk_un (by decide)]; exact w1
    · rw [u2_r, pk_us, w1, nI_add]
  · rintro _ ct2 ⟨hab, rfl, w0, w1, hL2⟩
    exact b153_157 (fun _ => hq ct2 w0 (hL2.up fun r q => bu_3 q (by omega) fun a' b' c' p1 p2 p3 p4 => ar5 hN p1 p2 p3 p4)) (fun z => absurd (by rw [w1]; exact (zle (by omega) (by omega)).2 (Nat.le_refl _)) z)
theorem r153_2 {a : Nat} {P : Option Value → xHp → Prop} (h : WF σ) (ha : MA σ ct0) (hx : a < sr σ * sc σ)
    (hq : ∀ ct2, ct2 44 0 = nI a → LSt σ cv ct0 ct2 2 ((a + 2) * 4096) → RUN X (EV X (d + 7)) 153 P 113 [.ref 33, .int (bcv cv), .int (nI (sr σ * sc σ))] [] (mk (zDm D) ct2)) :
    ∀ ct1, ct1 44 0 = nI a → ct1 44 1 = nI (a + 1) → LSt σ cv ct0 ct1 2 ((a + 1) * 4096) → RUN X (EV X (d + 7)) 153 P 84 [.ref 33, .int (bcv cv), .int (nI (sr σ * sc σ))] [] (mk (zDm D) ct1) := by
  intro ct1 v0 v1 hL
  have hN := h.N
  refine z_loop (N := sr σ * sc σ) (fun i ls ct2 => a < i ∧ ls = [.ref 33, .int (bcv cv), .int (nI (sr σ * sc σ))] ∧ ct2 44 0 = nI a ∧ ct2 44 1 = nI i ∧ LSt σ cv ct0 ct2 2 ((a + 1) * 4096 + (i + 1) * 64)) ?_ ?_ (sr σ * sc σ - (a + 1)) (a + 1) _ _ (by omega) ⟨Nat.lt_succ_self a, rfl, v0, v1, hL.up fun r q => bu3 hN q⟩
  · rintro b _ ct2 hb ⟨hab, rfl, w0, w1, ms, r, hR, hB⟩ ih
    refine b153_84 (fun z => ?_) (fun _ => ?_)
    · rw [w1, zle (by omega) (by omega)] at z; omega
    obtain ⟨_, _, ct3, he, rfl, rfl, ms3, k44, r3, hR3, hB3⟩ := e154 (X := X) (D := D) (d := d) (ct := ct2) (cv := cv) (l := [a, b]) (r := r) h ha ⟨⟨hab, hb⟩, trivial, trivial⟩ (getD_2 (i := 0) w0 w1) ms hR hB
    refine b153_94 he (b153_100 (ih _ _ ⟨by omega, rfl, ?_, ?_, LSt.set ⟨ms3, r3, hR3, bu4 hN hb hB3⟩⟩))
    · rw [u2_r, pk_un (by decide), k44]; exact w0
    · rw [u2_r, pk_us, k44, w1, nI_add]
  · rintro _ ct2 ⟨hab, rfl, w0, w1, hL2⟩
    exact b153_84 (fun _ => hq ct2 w0 (hL2.up fun r q => bu5 hN q)) (fun z => absurd (by rw [w1]; exact (zle (by omega) (by omega)).2 (Nat.le_refl _)) z)
theorem e153 (h : WF σ) (ha : MA σ ct) : CE X (d + 8) 153 [.ref 33, .int (bcv cv)] (zDm D) ct (fun v D' ct' => v = none ∧ zDm D = D' ∧ MS ct ct' ∧ ∃ r, RM σ cv ct' r ∧ BE (sr σ * sc σ) (eli σ cv) (kwt σ cv) (pas σ cv) (fun _ => True) r) := by
  have hN := h.N
  refine CE_of (Nat.le_of_ble_eq_true rfl) ?_
  have ms0 : MS ct (u2 ct 33 18 (nI 1000000)) := ⟨fun b h1 _ _ _ => u2_n h1, fun j _ h2 => by rw [u2_r, pk_un h2]⟩
  obtain ⟨_, _, ct1, he, rfl, rfl, ms1, k44, r1, hR1, hB1⟩ := e154 (X := X) (D := D) (d := d) (ct := u2 ct 33 18 (nI 1000000)) (ct0 := ct) (cv := cv) (l := []) (r := none) h ha trivial (fun i hi => absurd hi (Nat.not_lt_zero _)) ms0 (by show u2 ct 33 18 (nI 1000000) 33 18 = nI 1000000; rw [u2_r, pk_us]) (fun v hv q => by
    unfold BB at q
    rcases q with q | ⟨-, q⟩
    · exact absurd q (Nat.not_lt_zero _)
    · exact absurd q (Nat.not_lt_zero _))
  have L1 : LSt σ cv ct ct1 1 4096 := ⟨ms1, r1, hR1, bu0 hB1⟩
  refine b153_0 he (b153_12 (c122 h ha L1) (b153_16 ?_))
  refine z_loop0 (sr σ * sc σ) (fun i ls ct2 => ls = [.ref 33, .int (bcv cv), .int (nI (sr σ * sc σ))] ∧ ct2 44 0 = nI i ∧ LSt σ cv ct ct2 1 ((i + 1) * 4096)) ⟨rfl, by rw [u2_r, pk_us], by rw [show (0 + 1) * 4096 = 4096 from rfl]; exact L1.set⟩ ?_ ?_
  · rintro a _ ct2 hx ⟨rfl, w0, ms, r, hR, hB⟩ ih
    refine b153_24 (fun z => ?_) (fun _ => ?_)
    · rw [w0, zle (by omega) (by omega)] at z; omega
    obtain ⟨_, _, ct3, he3, rfl, rfl, ms3, k44, r3, hR3, hB3⟩ := e154 (X := X) (D := D) (d := d) (ct := ct2) (ct0 := ct) (cv := cv) (l := [a]) (r := r) h ha ⟨hx, trivial⟩ (getD_1 (i := 0) w0) ms hR hB
    refine b153_34 he3 (b153_40 (ih _ _ ⟨rfl, ?_, LSt.set ⟨ms3, r3, hR3, bu1 hB3⟩⟩))
    rw [u2_r, pk_us, k44, w0, nI_add]
  rintro _ ct2 ⟨rfl, w0, hL⟩
  refine b153_24 (fun _ => b153_53 ?_) (fun z => absurd (by rw [w0]; exact (zle (by omega) (by omega)).2 (Nat.le_refl _)) z)
  refine z_loop0 (sr σ * sc σ) (fun i ls ct2 => ls = [.ref 33, .int (bcv cv), .int (nI (sr σ * sc σ))] ∧ ct2 44 0 = nI i ∧ LSt σ cv ct ct2 2 ((i + 1) * 4096)) ⟨rfl, by rw [u2_r, pk_us], by rw [show (0 + 1) * 4096 = 4096 from rfl]; exact (hL.up fun r q => bu2 hN q).set⟩ ?_ ?_
  · rintro a _ ct3 hx ⟨rfl, w0, hL3⟩ ih
    refine b153_60 (fun z => ?_) (fun _ => b153_70 ?_)
    · rw [w0, zle (by omega) (by omega)] at z; omega
    refine r153_2 h ha hx (fun ct4 t0 hL4 => b153_113 (ih _ _ ⟨rfl, ?_, hL4.set⟩)) _ ?_ ?_ hL3.set
    · rw [u2_r, pk_us, t0, nI_add]
    · rw [u2_r, pk_un (by decide)]; exact w0
    · rw [u2_r, pk_us, w0, nI_add]
  rintro _ ct3 ⟨rfl, w0, hL3⟩
  refine b153_60 (fun _ => b153_126 ?_) (fun z => absurd (by rw [w0]; exact (zle (by omega) (by omega)).2 (Nat.le_refl _)) z)
  refine z_loop0 (sr σ * sc σ) (fun i ls ct2 => ls = [.ref 33, .int (bcv cv), .int (nI (sr σ * sc σ))] ∧ ct2 44 0 = nI i ∧ LSt σ cv ct ct2 3 ((i + 1) * 4096)) ⟨rfl, by rw [u2_r, pk_us], by rw [show (0 + 1) * 4096 = 4096 from rfl]; exact (hL3.up fun r q => bu6 hN q).set⟩ ?_ ?_
  · rintro a _ ct4 hx ⟨rfl, w0, hL4⟩ ih
    refine b153_133 (fun z => ?_) (fun _ => b153_143 ?_)
    · rw [w0, zle (by omega) (by omega)] at z; omega
    refine r153_b h ha hx (fun ct4 t0 hL4 => b153_223 (ih _ _ ⟨rfl, ?_, hL4.set⟩)) _ ?_ ?_ hL4.set
    · rw [u2_r, pk_us, t0, nI_add]
    · rw [u2_r, pk_un (by decide)]; exact w0
    · rw [u2_r, pk_us, w0, nI_add]
  rintro _ ct4 ⟨rfl, w0, ms, r, hR, hB⟩
  exact b153_133 (fun _ => b153_236 (zQ_of ⟨rfl, rfl, ms, r, hR, bu9 hN hB (Nat.le_refl _)⟩)) (fun z => absurd (by rw [w0]; exact (zle (by omega) (by omega)).2 (Nat.le_refl _)) z)
theorem e152 {k : Int32} (h : WF σ) (ha : MA σ ct) : CE X (d + 9) 152 [.ref 33, .int k, .int (bcv cv)] (zDm D) ct (fun v D' ct' => LQ σ cv k v ∧ PM σ D ct D' ct') := by
  refine CE_of (Nat.le_of_ble_eq_true rfl) (b152_0 (e108n (by decide) (by decide)) (b152_9 (fun q => b152_12 (zQ_of ⟨Or.inl ⟨fun z => ?_, rfl⟩, PM_0 ha⟩)) (fun q => ?_)))
  · rw [yn_0] at q; exact q z
  rw [yn_0, Classical.not_not] at q
  have hk : kin k := q
  obtain ⟨j, hj, rfl⟩ := z_in (by decide) (Int32.not_lt.mpr q.1) q.2
  obtain ⟨_, _, ct1, he, rfl, rfl, ms, r, hR, hB⟩ := e153 (X := X) (D := D) (d := d) (cv := cv) h ha
  have pm : PM σ D ct (zDm D) ct1 := ⟨ms.ma ha, fun b hb => ms.1 b (fun z => hb (by unfold mRow; omega)) (fun z => hb (by unfold mRow; omega)) (fun z => hb (by unfold mRow; omega)) (fun z => hb (by unfold mRow; omega)), rfl⟩
  refine b152_14 he ?_
  rcases r with _ | s
  · have hR : ct1 33 18 = nI 1000000 := hR
    exact b152_19 (fun _ => b152_28 (zQ_of ⟨Or.inr ⟨hk, none, hB, rfl⟩, pm⟩)) (fun z => absurd hR z)
  · obtain ⟨a1, a2, a3⟩ := hR
    have hs := zokl_len hB.1
    have hm := mc_le (σ := σ) (cv := cv) hs
    refine b152_19 (fun z => ?_) (fun _ => b152_31 (fun q0 => b152_35 (zQ_of ⟨Or.inr ⟨hk, some s, hB, ?_⟩, pm⟩)) (fun q0 => b152_42 (fun q1 => b152_61 (zQ_of ⟨Or.inr ⟨hk, some s, hB, ?_⟩, pm⟩)) (fun q1 => ?_)))
    · rw [a1, zeq (by omega) (by omega)] at z; omega
    · rw [a1]; unfold ans; dsimp only; rw [if_pos q0]; rfl
    · rw [a2] at q1; unfold ans; dsimp only; rw [if_neg q0, if_pos q1]
    · rw [a2] at q1
      have q1' := q1
      rw [zlt (by omega) (by omega)] at q1
      have j0 : j ≠ 0 := fun z => q0 (by rw [z])
      refine b152_50 (j57 := j - 1) ⟨by rw [pk_sub (by omega)], by omega, by decide⟩ (zQ_of ⟨Or.inr ⟨hk, some s, hB, ?_⟩, pm⟩)
      unfold ans; dsimp only; rw [if_neg q0, if_neg q1', nI_clamp (by omega), a3 (j - 1) (by omega)]
theorem k151 {k : Int32} (h : WF σ) (ha : MA σ ct) : CE X (d + 10) 151 [.ref 33, .int k] (zDm D) ct (fun v D' ct' => LQ σ false k v ∧ PM σ D ct D' ct') := by
  obtain ⟨v, D1, ct1, he, hL, hP⟩ := e152 (X := X) (D := D) (d := d) (cv := false) (k := k) h ha
  have hv : ∃ x, v = some (.int x) := by
    rcases hL with ⟨-, q⟩ | ⟨-, r, -, q⟩
    · exact ⟨_, q⟩
    · exact ⟨_, q⟩
  obtain ⟨x, rfl⟩ := hv
  exact CE_of (Nat.le_of_ble_eq_true rfl) (b151_0 he (by
    obtain ⟨p1, p2, rfl⟩ := hP
    exact b151_6 (zQ_of ⟨hL, p1, p2, rfl⟩)))
theorem k155 {k : Int32} (h : WF σ) (ha : MA σ ct) : CE X (d + 10) 155 [.ref 33, .int k] (zDm D) ct (fun v D' ct' => LQ σ true k v ∧ PM σ D ct D' ct') := by
  obtain ⟨v, D1, ct1, he, hL, hP⟩ := e152 (X := X) (D := D) (d := d) (cv := true) (k := k) h ha
  have hv : ∃ x, v = some (.int x) := by
    rcases hL with ⟨-, q⟩ | ⟨-, r, -, q⟩
    · exact ⟨_, q⟩
    · exact ⟨_, q⟩
  obtain ⟨x, rfl⟩ := hv
  exact CE_of (Nat.le_of_ble_eq_true rfl) (b155_0 he (by
    obtain ⟨p1, p2, rfl⟩ := hP
    exact b155_6 (zQ_of ⟨hL, p1, p2, rfl⟩)))
end
