/-! The reference: what it sees, what it costs. -/
/-- the reference's painting -/
def MP (σ ct : zM) : Prop := ct 34 0 = σ 0 0 ∧ ct 34 1 = σ 0 1 ∧ ct 34 2 = σ 0 2 ∧ (∀ j, j < 36 → ct 34 (9 + j) = σ 1 j) ∧ ∀ j, j < 4 → ct 34 (3 + j) = σ 2 j
/-- the reference's town at a is s -/
def mT (ct : zM) (a : Nat) (s : Nat → Int32) : Prop := ∀ j, j < 111 → ct a j = s j
theorem MP.k {σ ct ct' : zM} (h : MP σ ct) (e : ct' 34 = ct 34) : MP σ ct' := by
  unfold MP at *
  rw [e]
  exact h
theorem mT.k {ct ct' : zM} {a : Nat} {s : Nat → Int32} (h : mT ct a s) (e : ct' a = ct a) : mT ct' a s := fun j hj => by rw [e]; exact h j hj
theorem lN_i64 {n : Nat} (h : n < 1000000000) : lN n = (nI n).toInt64 := by
  rw [← Int64.toInt_inj, lN_toInt (by omega), Int32.toInt_toInt64, nI_toInt (by omega)]
theorem le3 {v : Int32} : nI 3 ≤ v ↔ ¬ v ≤ nI 2 := by
  rw [Int32.le_iff_toInt_le, Int32.le_iff_toInt_le]
  have a : (nI 3).toInt = 3 := by decide
  have b : (nI 2).toInt = 2 := by decide
  omega
theorem lt3 {v : Int32} : v < nI 3 ↔ v ≤ nI 2 := by
  rw [Int32.lt_iff_toInt_lt, Int32.le_iff_toInt_le]
  have a : (nI 3).toInt = 3 := by decide
  have b : (nI 2).toInt = 2 := by decide
  omega
theorem in_ix {x : Int32} {n : Nat} (h0 : 0 < n) (hn : n < 1000000000) : (nI 0 ≤ x ∧ x ≤ nI n - nI 1) ↔ ∃ j, j < n ∧ x = nI j := by
  rw [pk_sub (by omega)]
  constructor
  · rintro ⟨h1, h2⟩
    rcases pk_ix x (n := n) (by omega) with h | h | h
    · exact absurd h1 (Int32.not_le.mpr h)
    · have := Int32.le_trans h h2
      rw [zle (by omega) (by omega)] at this
      omega
    · exact h
  · rintro ⟨j, hj, rfl⟩
    rw [zle (by omega) (by omega), zle (by omega) (by omega)]
    omega
theorem in_sIn {x : Int32} {n : Nat} (h0 : 0 < n) (hn : n < 1000000000) : (nI 0 ≤ x ∧ x ≤ nI n - nI 1) ↔ sIn n x = true := by
  rw [in_ix h0 hn]
  constructor
  · rintro ⟨j, hj, rfl⟩; exact sIn_y hj hn
  · intro h
    exact Classical.byContradiction fun z => by rw [sIn_n z hn] at h; cases h
def yn (p : Prop) [Decidable p] : Int32 := if p then nI 1 else nI 0
theorem yn_b {p : Prop} [Decidable p] : zb (yn p) := by
  unfold yn
  split
  · exact Or.inr rfl
  · exact Or.inl rfl
theorem yn_0 {p : Prop} [Decidable p] : yn p = nI 0 ↔ ¬ p := by
  unfold yn
  split
  · rename_i h; exact ⟨fun z => absurd z (by decide), fun z => absurd h z⟩
  · rename_i h; exact ⟨fun _ => h, fun _ => rfl⟩
theorem yn_iff {p q : Prop} [Decidable p] [Decidable q] (h : p ↔ q) : yn p = yn q := by
  unfold yn
  simp only [h]
theorem WF.e0 {σ : zM} (h : WF σ) : σ 0 0 = nI (sr σ) := h.1.1
theorem WF.e1 {σ : zM} (h : WF σ) : σ 0 1 = nI (sc σ) := h.2.1.1
theorem WF.sh1 {σ : zM} (h : WF σ) : ∀ j, j < 36 → zk (σ 1 j) := h.2.2.2.2.2.2.2.1
section
variable {X : Nat × (Nat → Int32)} {D : zD} {ct σ : zM} {d a : Nat} {s : Nat → Int32}
theorem e108 {x lo hi : Int32} : EV X (d + 1) 108 [.long x.toInt64, .long lo.toInt64, .long hi.toInt64] (mk (zDm D) ct) (some (.int (yn (lo ≤ x ∧ x ≤ hi)))) (mk (zDm D) ct) := by
  refine EV_intro (Nat.le_of_ble_eq_true rfl) ?_
  have q1 : lg_cmp x.toInt64 lo.toInt64 < nI 0 ↔ x < lo := by
    rw [show nI 0 = 0 from rfl, lg_cmp_lt, Int64.lt_iff_toInt_lt, Int32.toInt_toInt64, Int32.toInt_toInt64, Int32.lt_iff_toInt_lt]
  have q2 : nI 0 < lg_cmp x.toInt64 hi.toInt64 ↔ hi < x := by
    rw [show nI 0 = 0 from rfl, lg_cmp_gt, Int64.lt_iff_toInt_lt, Int32.toInt_toInt64, Int32.toInt_toInt64, Int32.lt_iff_toInt_lt]
  unfold yn
  refine b108_0 (fun h => b108_17 ⟨?_, rfl⟩) (fun h => b108_6 (fun h2 => b108_17 ⟨?_, rfl⟩) (fun h2 => b108_13 ⟨?_, rfl⟩))
  · rw [if_neg (fun z => Int32.not_le.mpr (q1.1 h) z.1)]
  · rw [if_neg (fun z => Int32.not_le.mpr (q2.1 h2) z.2)]
  · rw [if_pos ⟨Int32.not_lt.mp fun z => h (q1.2 z), Int32.not_lt.mp fun z => h2 (q2.2 z)⟩]
theorem e108n {x : Int32} {l m : Nat} (hl : l < 1000000000) (hm : m < 1000000000) : EV X (d + 1) 108 [.long x.toInt64, .long (lN l), .long (lN m)] (mk (zDm D) ct) (some (.int (yn (nI l ≤ x ∧ x ≤ nI m)))) (mk (zDm D) ct) := by
  rw [lN_i64 hl, lN_i64 hm]
  exact e108
theorem e148 {x : Int32} : EV X (d + 2) 148 [.int x] (mk (zDm D) ct) (some (.int (yn (nI 0 ≤ x ∧ x ≤ nI 1)))) (mk (zDm D) ct) :=
  EV_intro (Nat.le_of_ble_eq_true rfl) (b148_0 (e108n (by decide) (by decide)) (b148_7 ⟨rfl, rfl⟩ yn_b))
theorem e122 (h : WF σ) (hp : MP σ ct) : EV X (d + 1) 122 [.ref 33] (mk (zDm D) ct) (some (.int (nI (sr σ * sc σ)))) (mk (zDm D) ct) :=
  EV_intro (Nat.le_of_ble_eq_true rfl) (b122_0 ⟨by rw [hp.1, hp.2.1, h.e0, h.e1, pk_mul], rfl⟩)
theorem e124 {x : Int32} (h : WF σ) (hp : MP σ ct) : EV X (d + 2) 124 [.ref 33, .int x] (mk (zDm D) ct) (some (.int (yn (sIn (sr σ * sc σ) x = true)))) (mk (zDm D) ct) := by
  have hN := h.N
  have hN1 := h.N1
  refine EV_intro (Nat.le_of_ble_eq_true rfl) (b124_0 (e122 h hp) (b124_7 (by rw [lN_i64 (by decide)]; exact e108) (b124_13 ⟨?_, rfl⟩ yn_b)))
  rw [yn_iff (in_sIn (x := x) (n := sr σ * sc σ) (by omega) (by omega))]
theorem e130 {k : Int32} (hk : zk k) : EV X (d + 1) 130 [.int k] (mk (zDm D) ct) (some (.int (nI (zz k)))) (mk (zDm D) ct) := by
  obtain ⟨n, hn, rfl⟩ := hk
  refine EV_intro (Nat.le_of_ble_eq_true rfl) (b130_0 ?_)
  rcases (show n = 0 ∨ n = 1 ∨ n = 2 ∨ n = 3 ∨ n = 4 ∨ n = 5 ∨ n = 6 ∨ n = 7 by omega) with rfl | rfl | rfl | rfl | rfl | rfl | rfl | rfl
  · exact xsw_in (n := 0) (by decide) rfl (b130_44 ⟨rfl, rfl⟩)
  · exact xsw_in (n := 1) (by decide) rfl (b130_46 ⟨rfl, rfl⟩)
  · exact xsw_in (n := 2) (by decide) rfl (b130_48 ⟨rfl, rfl⟩)
  · exact xsw_in (n := 3) (by decide) rfl (b130_52 ⟨rfl, rfl⟩)
  · exact xsw_in (n := 4) (by decide) rfl (b130_52 ⟨rfl, rfl⟩)
  · exact xsw_in (n := 5) (by decide) rfl (b130_48 ⟨rfl, rfl⟩)
  · exact xsw_in (n := 6) (by decide) rfl (b130_50 ⟨rfl, rfl⟩)
  · exact xsw_out (Or.inr (by decide)) (b130_52 ⟨rfl, rfl⟩)
theorem e131 {a b : Nat} (ha : a < 1000000) (hb : b < 1000000) : EV X (d + 1) 131 [.int (nI a - nI b)] (mk (zDm D) ct) (some (.int (nI ((a - b) + (b - a))))) (mk (zDm D) ct) := by
  refine EV_intro (Nat.le_of_ble_eq_true rfl) ?_
  rw [← pk_abs ha hb]
  refine b131_0 (fun h => b131_9 ⟨?_, rfl⟩) (fun h => b131_4 ⟨?_, rfl⟩)
  · have h' : 0 ≤ nI a - nI b := h
    rw [if_pos h']
  · have h' : ¬ 0 ≤ nI a - nI b := h
    rw [if_neg h', Int32.zero_sub]
theorem e126 {x : Nat} (h : WF σ) (hp : MP σ ct) (hx : x < 1000) : EV X (d + 1) 126 [.ref 33, .int (nI x)] (mk (zDm D) ct) (some (.int (nI (x / sc σ)))) (mk (zDm D) ct) := by
  have hc : ct 34 1 = nI (sc σ) := hp.2.1.trans h.e1
  have h2 := h.2.1.2
  refine EV_intro (Nat.le_of_ble_eq_true rfl) (b126_0 (by rw [hc]; exact nI_ne0 (by omega) (by omega)) ⟨?_, rfl⟩)
  rw [hc, pk_div (by omega) (by omega) (by omega)]
theorem e127 {x : Nat} (h : WF σ) (hp : MP σ ct) (hx : x < 1000) : EV X (d + 1) 127 [.ref 33, .int (nI x)] (mk (zDm D) ct) (some (.int (nI (x % sc σ)))) (mk (zDm D) ct) := by
  have hc : ct 34 1 = nI (sc σ) := hp.2.1.trans h.e1
  have h2 := h.2.1.2
  refine EV_intro (Nat.le_of_ble_eq_true rfl) (b127_0 (by rw [hc]; exact nI_ne0 (by omega) (by omega)) ⟨?_, rfl⟩)
  rw [hc, pk_rem (by omega) (by omega) (by omega)]
theorem e128y {R C : Nat} (h : WF σ) (hp : MP σ ct) (ha : zsh (zDm D) a = (10, 111)) (hR : R < sr σ) (hC : C < sc σ) : EV X (d + 2) 128 [.ref 33, .ref a, .int (nI R), .int (nI C)] (mk (zDm D) ct) (some (.int (ct a (R * sc σ + C)))) (mk (zDm D) ct) := by
  have hr : ct 34 0 = nI (sr σ) := hp.1.trans h.e0
  have hc : ct 34 1 = nI (sc σ) := hp.2.1.trans h.e1
  have h1 := h.1.2
  have h2 := h.2.1.2
  have hm : R * sc σ ≤ 5 * sc σ := Nat.mul_le_mul_right _ (by omega)
  refine EV_intro (Nat.le_of_ble_eq_true rfl) (b128_0 ha (by rw [lN_i64 (by decide)]; exact e108) (b128_15 ha (fun z => ?_) (fun _ => ?_)))
  · rw [yn_0, hr] at z
    exact absurd ((in_ix (by omega) (by omega)).2 ⟨R, hR, rfl⟩) z
  refine b128_18 ha (by rw [lN_i64 (by decide)]; exact e108) (b128_33 ha (fun z => ?_) (fun _ => ?_))
  · rw [yn_0, hc] at z
    exact absurd ((in_ix (by omega) (by omega)).2 ⟨C, hC, rfl⟩) z
  refine b128_36 ha (fun z => absurd z (by decide)) (fun _ => b128_48 ha (j61 := R * sc σ + C) ⟨?_, by omega, by decide⟩ ⟨rfl, rfl⟩)
  rw [hc, pk_mul, nI_add, nI_add, Nat.zero_add]
theorem e128n {x y : Int32} (h : WF σ) (hp : MP σ ct) (ha : zsh (zDm D) a = (10, 111)) (hn : (¬ ∃ R, R < sr σ ∧ x = nI R) ∨ ¬ ∃ C, C < sc σ ∧ y = nI C) : EV X (d + 2) 128 [.ref 33, .ref a, .int x, .int y] (mk (zDm D) ct) (some (.int (-4))) (mk (zDm D) ct) := by
  have hr : ct 34 0 = nI (sr σ) := hp.1.trans h.e0
  have hc : ct 34 1 = nI (sc σ) := hp.2.1.trans h.e1
  have h1 := h.1.2
  have h2 := h.2.1.2
  have out : ∀ {l : Value}, RUN X (EV X (d + 1)) 128 (fun v1 h1 => v1 = some (.int (-4)) ∧ h1 = mk (zDm D) ct) 40 [.ref 33, .ref a, .int x, .int y, l] [] (mk (zDm D) ct) := fun {l} =>
    b128_40 ha (fun _ => b128_65 ha ⟨rfl, rfl⟩) (fun z => absurd rfl z)
  refine EV_intro (Nat.le_of_ble_eq_true rfl) (b128_0 ha (by rw [lN_i64 (by decide)]; exact e108) (b128_15 ha (fun _ => out) (fun z => ?_)))
  rw [yn_0, hr, in_ix (by omega) (by omega), Classical.not_not] at z
  refine b128_18 ha (by rw [lN_i64 (by decide)]; exact e108) (b128_33 ha (fun _ => out) (fun z2 => ?_))
  rw [yn_0, hc, in_ix (by omega) (by omega), Classical.not_not] at z2
  exact hn.elim (fun q => absurd z q) (fun q => absurd z2 q)
theorem z_row {r c x : Nat} (hc : 0 < c) (hx : x < r * c) : x / c < r ∧ x % c < c ∧ x / c * c + x % c = x ∧ (x / c + 1 < r ↔ x + c < r * c) ∧ (x / c + 1) * c + x % c = x + c := by
  have h1 : x / c < r := by rw [Nat.div_lt_iff_lt_mul hc]; exact hx
  have h2 := Nat.mod_lt x hc
  have h3 : x / c * c + x % c = x := by rw [Nat.mul_comm]; exact Nat.div_add_mod x c
  have h5 : (x / c + 1) * c + x % c = x + c := by rw [Nat.succ_mul]; omega
  refine ⟨h1, h2, h3, ⟨fun q => ?_, fun q => ?_⟩, h5⟩
  · have : (x / c + 1 + 1) * c ≤ r * c := Nat.mul_le_mul_right c q
    rw [Nat.succ_mul] at this
    omega
  · apply Classical.byContradiction
    intro z
    have : r * c ≤ (x / c + 1) * c := Nat.mul_le_mul_right c (by omega)
    omega
/-- the cell below -/
theorem e128b {x : Nat} (h : WF σ) (hp : MP σ ct) (ha : zsh (zDm D) a = (10, 111)) (hm : mT ct a s) (hx : x < sr σ * sc σ) : EV X (d + 2) 128 [.ref 33, .ref a, .int (nI (x / sc σ) + nI 1), .int (nI (x % sc σ))] (mk (zDm D) ct) (some (.int (if x + sc σ < sr σ * sc σ then s (x + sc σ) else (-4)))) (mk (zDm D) ct) := by
  have h2 := h.2.1.2
  have hN := h.N
  obtain ⟨q1, q2, q3, q4, q5⟩ := z_row (r := sr σ) (c := sc σ) (by omega) hx
  have h1 := h.1.2
  rw [nI_add]
  by_cases hb : x + sc σ < sr σ * sc σ
  · rw [if_pos hb, ← hm _ (by omega), ← q5]
    exact e128y h hp ha (q4.2 hb) q2
  · rw [if_neg hb]
    exact e128n h hp ha (Or.inl fun ⟨R, w1, w2⟩ => hb (q4.1 (by rw [zeq (by omega) (by omega)] at w2; omega)))
theorem e128l {x : Nat} (h : WF σ) (hp : MP σ ct) (ha : zsh (zDm D) a = (10, 111)) (hm : mT ct a s) (hx : x < sr σ * sc σ) : EV X (d + 2) 128 [.ref 33, .ref a, .int (nI (x / sc σ)), .int (nI (x % sc σ) - nI 1)] (mk (zDm D) ct) (some (.int (if 0 < x % sc σ then s (x - 1) else (-4)))) (mk (zDm D) ct) := by
  have h2 := h.2.1.2
  have hN := h.N
  obtain ⟨q1, q2, q3, q4, q5⟩ := z_row (r := sr σ) (c := sc σ) (by omega) hx
  by_cases hb : 0 < x % sc σ
  · rw [if_pos hb, ← hm _ (by omega), pk_sub (by omega), show x - 1 = x / sc σ * sc σ + (x % sc σ - 1) by omega]
    exact e128y h hp ha q1 (by omega)
  · rw [if_neg hb]
    refine e128n h hp ha (Or.inr fun ⟨C, w1, w2⟩ => ?_)
    have z2 : nI (x % sc σ) - nI 1 < 0 := pk_sneg (by omega) (by omega)
    rw [w2] at z2
    exact absurd z2 (Int32.not_lt.mpr (nI_pos' (by omega)))
theorem e128r {x : Nat} (h : WF σ) (hp : MP σ ct) (ha : zsh (zDm D) a = (10, 111)) (hm : mT ct a s) (hx : x < sr σ * sc σ) : EV X (d + 2) 128 [.ref 33, .ref a, .int (nI (x / sc σ)), .int (nI (x % sc σ) + nI 1)] (mk (zDm D) ct) (some (.int (if x % sc σ < sc σ - 1 then s (x + 1) else (-4)))) (mk (zDm D) ct) := by
  have h2 := h.2.1.2
  have hN := h.N
  obtain ⟨q1, q2, q3, q4, q5⟩ := z_row (r := sr σ) (c := sc σ) (by omega) hx
  rw [nI_add]
  by_cases hb : x % sc σ < sc σ - 1
  · rw [if_pos hb, ← hm _ (by omega), show x + 1 = x / sc σ * sc σ + (x % sc σ + 1) by omega]
    exact e128y h hp ha q1 (by omega)
  · rw [if_neg hb]
    exact e128n h hp ha (Or.inr fun ⟨C, w1, w2⟩ => hb (by rw [zeq (by omega) (by omega)] at w2; omega))
theorem r125_89 {Q : Option Value → xHp → Prop} {x : Nat} {v3 v4 : Int32} {l5 l6 : Value} (hw : zwi (s 108)) (h : WF σ) (hp : MP σ ct) (ha : zsh (zDm D) a = (10, 111)) (hm : mT ct a s) (hx : x < sr σ * sc σ) (h3 : v3 = nI (x / sc σ)) (h4 : v4 = nI (x % sc σ)) (hq : Q (some (.int (if zsmoke (sr σ) (sc σ) s (s 108) x = true then nI 4 else nI 0))) (mk (zDm D) ct)) : RUN X (EV X (d + 2)) 125 Q 89 [.ref 33, .ref a, .int (nI x), .int v3, .int v4, l5, l6] [] (mk (zDm D) ct) := by
  have hN := h.N
  subst h3 h4
  have e4 : ∀ {P : Prop} [Decidable P] {v : Int32}, ((if P then v else (-4)) = nI 4) ↔ (P ∧ v = nI 4) := fun {P _ v} => by
    by_cases q : P
    · rw [if_pos q]; exact ⟨fun z => ⟨q, z⟩, fun z => z.2⟩
    · rw [if_neg q]; exact ⟨fun z => absurd z (by decide), fun z => absurd z.1 q⟩
  have z108 : zix (nI 108) 108 111 := zix_nI (by decide) (by decide)
  unfold zsmoke at hq
  refine b125_89 ha z108 (fun w => ?_) (fun w => ?_)
  · rw [hm 108 (by decide)] at w
    rw [if_pos w] at hq
    refine b125_100 ha (j104 := x) ⟨by rw [nI_add, Nat.zero_add], by omega, by decide⟩ (fun q => b125_164 ha ?_) (fun q => b125_168 ha ?_)
    · rw [hm x (by omega)] at q
      rw [if_pos (decide_eq_true q)] at hq; exact hq
    · rw [hm x (by omega)] at q
      rw [if_neg (fun z => q (of_decide_eq_true z))] at hq; exact hq
  rw [hm 108 (by decide)] at w ⊢
  rw [if_neg w] at hq
  refine b125_108 ha (fun w1 => ?_) (fun w1 => ?_)
  · rw [if_pos w1] at hq
    refine b125_114 ha (e128b h hp ha hm hx) (b125_124 ha (fun q => b125_164 ha ?_) (fun q => b125_168 ha ?_))
    · rw [if_pos (decide_eq_true (e4.1 q))] at hq; exact hq
    · rw [if_neg (fun z => q (e4.2 (of_decide_eq_true z)))] at hq; exact hq
  rw [if_neg w1] at hq
  refine b125_127 ha (fun w2 => ?_) (fun w2 => ?_)
  · rw [if_pos w2] at hq
    refine b125_133 ha (e128l h hp ha hm hx) (b125_143 ha (fun q => b125_164 ha ?_) (fun q => b125_168 ha ?_))
    · rw [if_pos (decide_eq_true (e4.1 q))] at hq; exact hq
    · rw [if_neg (fun z => q (e4.2 (of_decide_eq_true z)))] at hq; exact hq
  · have w3 : s 108 = nI 3 := by
      obtain ⟨n, hn, e⟩ := hw
      rw [e] at w w1 w2 ⊢
      rcases (show n = 0 ∨ n = 1 ∨ n = 2 ∨ n = 3 by omega) with rfl | rfl | rfl | rfl
      · exact absurd rfl w
      · exact absurd rfl w1
      · exact absurd rfl w2
      · rfl
    rw [if_neg w2, if_pos w3] at hq
    refine b125_146 ha (e128r h hp ha hm hx) (b125_156 ha (fun q => b125_164 ha ?_) (fun q => b125_168 ha ?_))
    · rw [if_pos (decide_eq_true (e4.1 q))] at hq; exact hq
    · rw [if_neg (fun z => q (e4.2 (of_decide_eq_true z)))] at hq; exact hq
/-- what the reference sees -/
def szs (σ : zM) (s : Nat → Int32) (x : Nat) : Int32 := zsee (sr σ) (sc σ) (σ 1) s (fun i => s (36 + i)) (fun i => s (72 + i)) (s 108) x
theorem e125 {x : Nat} (h : WF σ) (hp : MP σ ct) (ha : zsh (zDm D) a = (10, 111)) (hm : mT ct a s) (hk : zOk (sr σ * sc σ) s) (hv : zwi (s 108)) (hx : x < sr σ * sc σ) : EV X (d + 3) 125 [.ref 33, .ref a, .int (nI x)] (mk (zDm D) ct) (some (.int (szs σ s x))) (mk (zDm D) ct) := by
  have hN := h.N
  have h2 := h.2.1.2
  have hc : ct 34 1 = nI (sc σ) := hp.2.1.trans h.e1
  refine EV_intro (Nat.le_of_ble_eq_true rfl) (b125_0 ha (e126 h hp (by omega)) (b125_5 ha (e127 h hp (by omega)) ?_))
  unfold szs zsee
  have hb := (hk.1 x (by omega)).2
  refine b125_11 ha (j18 := 72 + x) ⟨by rw [nI_add], by omega, by decide⟩ (fun q => ?_) (fun q => ?_)
  · rw [hm _ (by omega)] at q
    refine b125_23 ha (j31 := 9 + x) ⟨by rw [nI_add], by omega, by decide⟩ ⟨?_, rfl⟩
    rw [if_neg (show ¬ s (72 + x) = nI 0 by rw [q]; decide), hp.2.2.2.1 x (by omega)]
  rw [hm _ (by omega)] at q
  rw [if_pos (hb.resolve_right q)]
  have zx : zix (nI 0 + nI x) x 111 := ⟨by rw [nI_add, Nat.zero_add], by omega, by decide⟩
  have below : (s x = nI 0 ∨ s x = nI 4) → ∀ {l5 l6 : Value}, RUN X (EV X (d + 2)) 125 (fun v1 h1 => v1 = some (.int (if s x = nI 0 ∨ s x = nI 4 then (if x + sc σ < sr σ * sc σ ∧ s (x + sc σ) = nI 5 ∧ nI 3 ≤ s (36 + (x + sc σ)) then nI 5 else if zsmoke (sr σ) (sc σ) s (s 108) x = true then nI 4 else nI 0) else s x)) ∧ h1 = mk (zDm D) ct) 56 [.ref 33, .ref a, .int (nI x), .int (nI (x / sc σ)), .int (nI (x % sc σ)), l5, l6] [] (mk (zDm D) ct) := fun hw {l5 l6} => by
    refine b125_56 ha (e128b h hp ha hm hx) (b125_66 ha (fun q1 => ?_) (fun q1 => r125_89 hv h hp ha hm hx rfl rfl ⟨?_, rfl⟩))
    · by_cases q2 : x + sc σ < sr σ * sc σ
      · rw [if_pos q2] at q1
        refine b125_70 ha (j82 := 36 + (x + sc σ)) ⟨by rw [hc, nI_add, nI_add]; congr 1; omega, by omega, by decide⟩ (fun q3 => r125_89 hv h hp ha hm hx rfl rfl ⟨?_, rfl⟩) (fun q3 => b125_87 ha ⟨?_, rfl⟩)
        · rw [hm _ (by omega)] at q3
          have hn : ¬ (x + sc σ < sr σ * sc σ ∧ s (x + sc σ) = nI 5 ∧ nI 3 ≤ s (36 + (x + sc σ))) := fun z => (le3.1 z.2.2) q3
          rw [if_pos hw, if_neg hn]
        · rw [hm _ (by omega)] at q3
          rw [if_pos hw, if_pos ⟨q2, q1, le3.2 q3⟩]
      · rw [if_neg q2] at q1
        exact absurd q1 (by decide)
    · have hn : ¬ (x + sc σ < sr σ * sc σ ∧ s (x + sc σ) = nI 5 ∧ nI 3 ≤ s (36 + (x + sc σ))) := fun z => q1 (by rw [if_pos z.1]; exact z.2.1)
      rw [if_pos hw, if_neg hn]
  refine b125_33 ha zx (fun q1 => below (by rw [hm x (by omega)] at q1; exact Or.inl q1)) (fun q1 => b125_41 ha zx (fun q2 => below (by rw [hm x (by omega)] at q2; exact Or.inr q2)) (fun q2 => b125_50 ha zx ⟨?_, rfl⟩))
  rw [hm x (by omega)] at q1 q2 ⊢
  rw [if_neg (fun z => z.elim q1 q2)]
theorem e129 {x : Nat} (h : WF σ) (hp : MP σ ct) (ha : zsh (zDm D) a = (10, 111)) (hm : mT ct a s) (hk : zOk (sr σ * sc σ) s) (hv : zwi (s 108)) (hx : x < sr σ * sc σ) : EV X (d + 4) 129 [.ref 33, .ref a, .int (nI x)] (mk (zDm D) ct) (some (.int (nI (sp σ s x)))) (mk (zDm D) ct) := by
  have hN := h.N
  have h2 := h.2.1.2
  obtain ⟨ee, he⟩ := hk.eye hN
  refine EV_intro (Nat.le_of_ble_eq_true rfl) (b129_0 ha (e125 h hp ha hm hk hv hx) ?_)
  have e34 : ct 34 (9 + x) = σ 1 x := hp.2.2.2.1 x (by omega)
  have hs1 := h.sh1 x (by omega)
  have hs2 : zk (szs σ s x) := zsee_k hs1 (hk.1 x (by omega)).1
  unfold sp zP zcost
  have k0 : zsee (sr σ) (sc σ) (σ 1) s (fun i => s (36 + i)) (fun i => s (72 + i)) (s 108) x = szs σ s x := rfl
  rw [k0]
  have z109 : zix (nI 109) 109 111 := zix_nI (by decide) (by decide)
  refine b129_6 ha (j15 := 9 + x) ⟨by rw [nI_add], by omega, by decide⟩ (fun q => b129_24 ha ⟨?_, rfl⟩) (fun q => ?_)
  · rw [e34] at q
    rw [if_pos q]
  rw [e34] at q ⊢
  rw [if_neg q]
  refine b129_26 ha (e130 hs2) (b129_30 ha (e130 hs1) (b129_37 ha (e126 h hp (by omega)) ?_))
  have e109 : ct a 109 = nI (s 109).toNatClampNeg := (hm 109 (by decide)).trans ee
  have a1 : x / sc σ ≤ x := Nat.div_le_self _ _
  have a2 : (s 109).toNatClampNeg / sc σ ≤ (s 109).toNatClampNeg := Nat.div_le_self _ _
  have a3 : x % sc σ ≤ x := Nat.mod_le _ _
  have a4 : (s 109).toNatClampNeg % sc σ ≤ (s 109).toNatClampNeg := Nat.mod_le _ _
  refine b129_45 ha z109 (by rw [e109]; exact e126 h hp (by omega)) ?_
  refine b129_53 ha (e131 (by omega) (by omega)) ?_
  refine b129_57 ha (e127 h hp (by omega)) ?_
  refine b129_63 ha z109 (by rw [e109]; exact e127 h hp (by omega)) ?_
  refine b129_71 ha (e131 (by omega) (by omega)) ?_
  have q1 := zz_le (szs σ s x)
  have q2 := zz_le (σ 1 x)
  have key : ∀ A B : Nat, A ≤ 36 → B ≤ 36 → (A - B) + (B - A) ≤ 36 := by intro A B; omega
  have lA0 := key (x / sc σ) ((s 109).toNatClampNeg / sc σ) (by omega) (by omega)
  have lB0 := key (x % sc σ) ((s 109).toNatClampNeg % sc σ) (by omega) (by omega)
  generalize hA : (x / sc σ - (s 109).toNatClampNeg / sc σ) + ((s 109).toNatClampNeg / sc σ - x / sc σ) = A
  generalize hB : (x % sc σ - (s 109).toNatClampNeg % sc σ) + ((s 109).toNatClampNeg % sc σ - x % sc σ) = B
  have hAB : zdist (sc σ) x (s 109).toNatClampNeg = A + B := by unfold zdist; rw [hA, hB]
  have lA : A ≤ 36 := by rw [← hA]; exact lA0
  have lB : B ≤ 36 := by rw [← hB]; exact lB0
  -- the nearness
  have near : ∀ {v : Int32}, (nI 1 ≤ nI 5 - nI A - nI B → nI (znear (sc σ) x (s 109).toNatClampNeg) = nI 5 - nI A - nI B) ∧ (¬ nI 1 ≤ nI 5 - nI A - nI B → nI (znear (sc σ) x (s 109).toNatClampNeg) = nI 1) := fun {v} => by
    have e : nI 5 - nI A - nI B = nI 5 - nI (A + B) := by rw [← nI_add]; grind
    rw [e]
    unfold znear
    rw [hAB]
    by_cases hh : A + B < 4
    · rw [if_pos hh, pk_sub (by omega)]
      exact ⟨fun _ => rfl, fun z => absurd ((zle (by omega) (by omega)).2 (by omega)) z⟩
    · rw [if_neg hh]
      by_cases h5 : A + B ≤ 5
      · rw [pk_sub h5]
        refine ⟨fun z => ?_, fun _ => rfl⟩
        rw [zle (by omega) (by omega)] at z
        congr 1; omega
      · refine ⟨fun z => ?_, fun _ => rfl⟩
        have z2 : nI 5 - nI (A + B) < 0 := pk_sneg (by omega) (by omega)
        rw [Int32.le_iff_toInt_le] at z
        rw [Int32.lt_iff_toInt_lt] at z2
        have a : (nI 1).toInt = 1 := by decide
        have b : (0 : Int32).toInt = 0 := by decide
        omega
  have big : ∀ {S : Nat}, S = (if zz (szs σ s x) < zz (σ 1 x) then zz (σ 1 x) else zz (szs σ s x)) → (nI 1 ≤ nI 5 - nI A - nI B → some (Value.int (nI S * (nI 5 - nI A - nI B))) = some (Value.int (nI ((if zz (szs σ s x) < zz (σ 1 x) then zz (σ 1 x) else zz (szs σ s x)) * znear (sc σ) x (s 109).toNatClampNeg)))) ∧ (¬ nI 1 ≤ nI 5 - nI A - nI B → some (Value.int (nI S * nI 1)) = some (Value.int (nI ((if zz (szs σ s x) < zz (σ 1 x) then zz (σ 1 x) else zz (szs σ s x)) * znear (sc σ) x (s 109).toNatClampNeg)))) := fun {S} hS => by
    subst hS
    rw [← pk_mul]
    exact ⟨fun z => by rw [(near (v := 0)).1 z], fun z => by rw [(near (v := 0)).2 z]⟩
  refine b129_75 ha (fun w => ?_) (fun w => ?_)
  · rw [zle (by omega) (by omega)] at w
    have hS : zz (σ 1 x) = (if zz (szs σ s x) < zz (σ 1 x) then zz (σ 1 x) else zz (szs σ s x)) := by split <;> omega
    exact b129_90 ha (fun w2 => b129_102 ha ⟨(big hS).1 w2, rfl⟩) (fun w2 => b129_98 ha ⟨(big hS).2 w2, rfl⟩)
  · rw [zle (by omega) (by omega)] at w
    have hS : zz (szs σ s x) = (if zz (szs σ s x) < zz (σ 1 x) then zz (σ 1 x) else zz (szs σ s x)) := by split <;> omega
    exact b129_85 ha (fun w2 => b129_102 ha ⟨(big hS).1 w2, rfl⟩) (fun w2 => b129_98 ha ⟨(big hS).2 w2, rfl⟩)
theorem e133 (h : WF σ) (hp : MP σ ct) (ha : zsh (zDm D) a = (10, 111)) (hm : mT ct a s) (hk : zOk (sr σ * sc σ) s) (hv : zwi (s 108)) : EV X (d + 5) 133 [.ref 33, .ref a] (mk (zDm D) ct) (some (.int (nI (sfine σ s)))) (mk (zDm D) ct) := by
  have hN := h.N
  refine EV_intro (Nat.le_of_ble_eq_true rfl) (b133_0 ha ?_)
  refine z_loop0 (sr σ * sc σ) (fun i ls ct1 => ct1 = ct ∧ ∃ l5, ls = [.ref 33, .ref a, .int (nI (zS (sp σ s) i)), .int (nI (zL (sp σ s) i)), .int (nI i), l5]) ⟨rfl, _, rfl⟩ ?_ ?_
  · rintro i _ _ hi ⟨rfl, l5, rfl⟩ ih
    refine b133_7 ha (e122 h hp) (b133_13 ha (fun z => ?_) (fun _ => b133_16 ha (e129 h hp ha hm hk hv hi) ?_))
    · rw [zle (by omega) (by omega)] at z; omega
    have hle : sp σ s i ≤ 20 := sp_le
    refine b133_23 ha (fun w => b133_37 ha (fun _ => b133_51 ha ?_) (fun z => absurd w z)) (fun w => b133_32 ha (fun z => absurd z w) (fun _ => b133_47 ha ?_))
    · rw [zle (by omega) (by omega)] at w
      refine ih _ _ ⟨rfl, .int (nI (sp σ s i)), ?_⟩
      rw [nI_add, nI_add, nI_add]
      show _ = [Value.ref 33, .ref a, .int (nI (zS (sp σ s) i + (if sp σ s i ≤ 3 then sp σ s i else 0))), .int (nI (zL (sp σ s) i + (if sp σ s i ≤ 3 then 0 else sp σ s i))), .int (nI (i + 1)), _]
      rw [if_neg (by omega), if_neg (by omega)]
    · rw [zle (by omega) (by omega)] at w
      refine ih _ _ ⟨rfl, .int (nI (sp σ s i)), ?_⟩
      rw [nI_add, nI_add, nI_add]
      show _ = [Value.ref 33, .ref a, .int (nI (zS (sp σ s) i + (if sp σ s i ≤ 3 then sp σ s i else 0))), .int (nI (zL (sp σ s) i + (if sp σ s i ≤ 3 then 0 else sp σ s i))), .int (nI (i + 1)), _]
      rw [if_pos (by omega), if_pos (by omega)]
  · rintro _ _ ⟨rfl, l5, rfl⟩
    refine b133_7 ha (e122 h hp) (b133_13 ha (fun _ => b133_61 ha ⟨?_, rfl⟩) (fun z => absurd ((zle (by omega) (by omega)).2 (Nat.le_refl _)) z))
    have := zS_le (g := sp σ s) (n := sr σ * sc σ) fun x _ => sp_le
    rw [pk_div (by omega) (by decide) (by decide), nI_add]
    rfl
def spa (σ : zM) (s : Nat → Int32) : Int32 := if σ 0 2 < nI (sfine σ s) then nI 0 else nI 1
theorem e134 (h : WF σ) (hp : MP σ ct) (ha : zsh (zDm D) a = (10, 111)) (hm : mT ct a s) (hk : zOk (sr σ * sc σ) s) (hv : zwi (s 108)) : EV X (d + 6) 134 [.ref 33, .ref a] (mk (zDm D) ct) (some (.int (spa σ s))) (mk (zDm D) ct) := by
  unfold spa
  refine EV_intro (Nat.le_of_ble_eq_true rfl) (b134_0 ha (e133 h hp ha hm hk hv) (b134_5 ha (fun q => b134_18 ha ⟨?_, rfl⟩) (fun q => b134_14 ha ⟨?_, rfl⟩)))
  · rw [hp.2.2.1] at q; rw [if_pos q]
  · rw [hp.2.2.1] at q; rw [if_neg q]
theorem e135 (h : WF σ) (hp : MP σ ct) (hm : mT ct 36 (σ 3)) : EV X (d + 4) 135 [.ref 33] (mk (zDm D) ct) (some (.int (nI (zW (sp σ (σ 3)) (sr σ * sc σ))))) (mk (zDm D) ct) := by
  have hN := h.N
  refine EV_intro (Nat.le_of_ble_eq_true rfl) (b135_0 ?_)
  refine z_loop0 (sr σ * sc σ) (fun i ls ct1 => ct1 = ct ∧ ls = [.ref 33, .int (nI (zW (sp σ (σ 3)) i)), .int (nI i)]) ⟨rfl, rfl⟩ ?_ ?_
  · rintro i _ _ hi ⟨rfl, rfl⟩ ih
    refine b135_4 (e122 h hp) (b135_9 (fun z => ?_) (fun _ => b135_12 (e125 h hp rfl hm h.now h.ww.1 hi) ?_))
    · rw [zle (by omega) (by omega)] at z; omega
    have e34 := hp.2.2.2.1 i (by omega)
    have hs1 := h.sh1 i (by omega)
    have hs2 : zk (szs σ (σ 3) i) := zsee_k hs1 (h.now.1 i (by omega)).1
    have key : sp σ (σ 3) i = 0 ↔ szs σ (σ 3) i = σ 1 i := zcost_pos hs2 hs1
    refine b135_22 (j30 := 9 + i) ⟨by rw [nI_add], by omega, by decide⟩ (fun q => b135_34 (ih _ _ ⟨rfl, ?_⟩)) (fun q => b135_38 (ih _ _ ⟨rfl, ?_⟩))
    · rw [e34] at q
      rw [nI_add, nI_add]
      show _ = [Value.ref 33, .int (nI (zW (sp σ (σ 3)) i + (if sp σ (σ 3) i = 0 then 0 else 1))), .int (nI (i + 1))]
      rw [if_pos (key.2 q)]
    · rw [e34] at q
      rw [nI_add, nI_add]
      show _ = [Value.ref 33, .int (nI (zW (sp σ (σ 3)) i + (if sp σ (σ 3) i = 0 then 0 else 1))), .int (nI (i + 1))]
      rw [if_neg (fun z => q (key.1 z))]
  · rintro _ _ ⟨rfl, rfl⟩
    refine b135_4 (e122 h hp) (b135_9 (fun _ => b135_47 ⟨rfl, rfl⟩) (fun z => absurd ((zle (by omega) (by omega)).2 (Nat.le_refl _)) z))
end
