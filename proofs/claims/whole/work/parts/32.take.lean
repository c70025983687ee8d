/-! The class draws what it reads. -/
/-- the town of a drawn one -/
def stw (p : Nat → Int32) : Nat → Int32 := fun k => if k < 36 then p (45 + k) else if k = 108 then p 7 else if k = 109 then p 8 else nI 0
/-- the script's own painting and town are as drawn -/
def CS (p : Nat → Int32) (ct : zM) : Prop := (ct 3 0 = p 0 ∧ ct 3 1 = p 1 ∧ ct 3 2 = p 2) ∧ (∀ j, j < 36 → ct 4 j = p (9 + j)) ∧ (∀ j, j < 4 → ct 5 j = p (3 + j)) ∧ zTm ct 6 (stw p)
def CV (b : Bool) (ct : zM) : Prop := ct 1 6 = if b = true then nI 0 else nI 1
theorem CS.fn {p : Nat → Int32} {ct ct' : zM} (h : CS p ct) (k : ∀ b, 3 ≤ b → b ≤ 9 → ct' b = ct b) : CS p ct' := by
  unfold CS
  rw [k 3 (by omega) (by omega), k 4 (by omega) (by omega), k 5 (by omega) (by omega)]
  exact ⟨h.1, h.2.1, h.2.2.1, h.2.2.2.keep fun b z1 z2 => k b (by omega) (by omega)⟩
theorem stw_u {p : Nat → Int32} {k : Nat} {v : Int32} (hk : k < 7 ∨ (9 ≤ k ∧ k < 45)) : stw (upd p k v) = stw p := by
  funext j
  unfold stw
  by_cases h1 : j < 36
  · rw [if_pos h1, if_pos h1, pk_un (by omega)]
  · rw [if_neg h1, if_neg h1, pk_un (by omega), pk_un (by omega)]
theorem stw_w {p : Nat → Int32} {v : Int32} : stw (upd p 7 v) = swd v (stw p) := by
  funext j
  unfold swd stw
  by_cases h0 : j = 108
  · subst h0
    rw [pk_us, if_neg (by omega), if_pos rfl, pk_us]
  · rw [pk_un h0]
    by_cases h1 : j < 36
    · rw [if_pos h1, if_pos h1, pk_un (by omega)]
    · rw [if_neg h1, if_neg h1, if_neg h0, if_neg h0, pk_un (by omega)]
theorem stw_e {p : Nat → Int32} {v : Int32} : stw (upd p 8 v) = sey v (stw p) := by
  funext j
  unfold sey stw
  by_cases h0 : j = 109
  · subst h0
    rw [pk_us, if_neg (by omega), if_neg (by omega), if_pos rfl, pk_us]
  · rw [pk_un h0]
    by_cases h1 : j < 36
    · rw [if_pos h1, if_pos h1, pk_un (by omega)]
    · rw [if_neg h1, if_neg h1, pk_un (by omega), if_neg h0, if_neg h0]
theorem stw_i {p : Nat → Int32} {v : Int32} {x : Nat} (hx : x < 36) : stw (upd p (45 + x) v) = spl x v (nI 0) (stw p) := by
  funext j
  unfold spl stw
  by_cases h1 : j < 36
  · rw [if_pos h1]
    by_cases h2 : j = x
    · rw [h2, pk_us, if_pos rfl]
    · rw [pk_un (by omega), if_neg h2, if_neg (by omega), if_pos h1]
  · rw [if_neg h1, pk_un (by omega), pk_un (by omega), if_neg (show ¬ j = x by omega), if_neg h1]
    by_cases h3 : j = 36 + x
    · rw [if_pos h3, if_neg (by omega), if_neg (by omega)]
    · rw [if_neg h3]
section
variable {X : Nat × (Nat → Int32)} {D : zD} {ct : zM} {d n a : Nat} {t : Nat → Nat} {p : (Nat → Int32) × Bool}
def PT (p : (Nat → Int32) × Bool) (c : Nat) (l : List Nat) (ct : zM) : Option Value → zD → zD → zM → Prop := fun v D D' ct' => D = D' ∧ FR ct ct' ∧ ((ptk p c l = none ∧ v = some (.int (nI 0))) ∨ ∃ q, ptk p c l = some q ∧ v = some (.int (nI 1)) ∧ CS q.1 ct' ∧ CV q.2 ct')
theorem e28 {l : List Nat} (hc : CS p.1 ct) (hv : CV p.2 ct) (hb : NB ct l) (hl : 1 ≤ l.length ∧ l.length ≤ 4 ∧ ∀ x, x ∈ l → x ≤ 99) : CE X (d + 1) 28 [.ref 1] D ct (fun v D' ct' => PT p 118 l ct v D D' ct') := by
  refine CE_of (Nat.le_of_ble_eq_true rfl) ?_
  have no : ptk p 118 l = none → zQ (fun v D' ct' => PT p 118 l ct v D D' ct') (some (.int (nI 0))) (mk D ct) := fun e => zQ_of ⟨rfl, FR.r ct, Or.inl ⟨e, rfl⟩⟩
  unfold CV at hv
  have two : ∀ x y, l = [x, y] → ptk p 118 l = if p.2 = true ∧ (2 ≤ x ∧ x ≤ 6) ∧ (2 ≤ y ∧ y ≤ 6) then some (upd (upd p.1 0 (nI x)) 1 (nI y), true) else none := by rintro x y rfl; rfl
  have oth : l.length ≠ 2 → ptk p 118 l = none := by
    intro h2
    rcases l with _ | ⟨x, _ | ⟨y, _ | ⟨z, _ | ⟨w, _ | _⟩⟩⟩⟩
    · rfl
    · rfl
    · exact absurd rfl h2
    · rfl
    · rfl
    · rfl
  refine b28_0 (fun z => b28_7 (fun z2 => ?_) (fun z2 => b28_15 (no (oth fun e => z2 (by rw [hb.1, e]))))) (fun z => b28_15 (no ?_))
  · rw [hb.1, zeq (by omega) (by omega)] at z2
    obtain ⟨x, y, rfl⟩ : ∃ x y, l = [x, y] := by
      rcases l with _ | ⟨x, _ | ⟨y, _ | _⟩⟩
      · cases z2
      · cases z2
      · exact ⟨x, y, rfl⟩
      · simp at z2
    have hx : x ≤ 99 := hl.2.2 x (by simp)
    have hy : y ≤ 99 := hl.2.2 y (by simp)
    have hp : p.2 = true := by
      by_cases w : p.2 = true
      · exact w
      · rw [hv, if_neg w] at z; exact absurd z (by decide)
    have e0 : ct 10 0 = nI x := hb.2 0 (by simp)
    have e1 : ct 10 1 = nI y := hb.2 1 (by simp)
    refine b28_17 (fun z3 => b28_42 (no ?_)) (fun z3 => ?_)
    · rw [e0, zlt (by omega) (by omega)] at z3
      rw [two x y rfl, if_neg (by omega)]
    rw [e0, zlt (by omega) (by omega)] at z3
    rw [e0, e1]
    refine b28_36 (fun z4 => ?_) (fun z4 => b28_42 (no ?_))
    · rw [zle (by omega) (by omega)] at z4
      refine b28_44 (fun z5 => b28_55 (no ?_)) (fun z5 => b28_49 (fun z6 => ?_) (fun z6 => b28_55 (no ?_)))
      · rw [zlt (by omega) (by omega)] at z5
        rw [two x y rfl, if_neg (by omega)]
      · rw [zlt (by omega) (by omega)] at z5
        rw [zle (by omega) (by omega)] at z6
        refine b28_57 (zQ_of ⟨rfl, ⟨fun b z1 z2 => by rw [u2_n (by omega), u2_n (by omega)], fun j z1 z2 => by rw [u2_n (by omega), u2_n (by omega)]⟩, Or.inr ⟨_, (two x y rfl).trans (if_pos ⟨hp, ⟨by omega, by omega⟩, by omega, by omega⟩), rfl, ⟨⟨?_, ?_, ?_⟩, fun j hj => ?_, fun j hj => ?_, ?_⟩, ?_⟩⟩)
        · dsimp only; rw [u2_a, if_neg (by omega), u2_a, if_pos ⟨rfl, rfl⟩, pk_un (by omega), pk_us]
        · dsimp only; rw [u2_a, if_pos ⟨rfl, rfl⟩, pk_us]
        · dsimp only; rw [u2_a, if_neg (by omega), u2_a, if_neg (by omega), pk_un (by omega), pk_un (by omega)]
          exact hc.1.2.2
        · dsimp only; rw [u2_n (by omega), u2_n (by omega), pk_un (by omega), pk_un (by omega)]
          exact hc.2.1 j hj
        · dsimp only; rw [u2_n (by omega), u2_n (by omega), pk_un (by omega), pk_un (by omega)]
          exact hc.2.2.1 j hj
        · dsimp only; rw [stw_u (by omega), stw_u (by omega)]
          exact hc.2.2.2.keep fun b z1 z2 => by rw [u2_n (by omega), u2_n (by omega)]
        · unfold CV
          rw [u2_n (by omega), u2_n (by omega), hv, hp]
      · rw [zlt (by omega) (by omega)] at z5
        rw [zle (by omega) (by omega)] at z6
        rw [two x y rfl, if_neg (by omega)]
    · rw [zle (by omega) (by omega)] at z4
      rw [two x y rfl, if_neg (by omega)]
  · by_cases e : l.length = 2
    · obtain ⟨x, y, rfl⟩ : ∃ x y, l = [x, y] := by
        rcases l with _ | ⟨x, _ | ⟨y, _ | _⟩⟩
        · cases e
        · cases e
        · exact ⟨x, y, rfl⟩
        · simp at e
      rw [two x y rfl, if_neg]
      intro w
      rw [hv, if_pos w.1] at z
      exact z rfl
    · exact oth e
theorem len2 {l : List Nat} (e : l.length = 2) : ∃ x y, l = [x, y] := by
  rcases l with _ | ⟨x, _ | ⟨y, _ | _⟩⟩
  · cases e
  · cases e
  · exact ⟨x, y, rfl⟩
  · simp at e
theorem len1 {l : List Nat} (e : l.length = 1) : ∃ x, l = [x] := by
  rcases l with _ | ⟨x, _ | _⟩
  · cases e
  · exact ⟨x, rfl⟩
  · simp at e
theorem len4 {l : List Nat} (e : l.length = 4) : ∃ x y z w, l = [x, y, z, w] := by
  rcases l with _ | ⟨x, _ | ⟨y, _ | ⟨z, _ | ⟨w, _ | _⟩⟩⟩⟩
  · cases e
  · cases e
  · cases e
  · cases e
  · exact ⟨x, y, z, w, rfl⟩
  · simp at e
theorem ptk_n2 {c : Nat} {l : List Nat} (hc : c = 118 ∨ c = 112 ∨ c = 105) (h2 : l.length ≠ 2) : ptk p c l = none := by
  rcases l with _ | ⟨x, _ | ⟨y, _ | ⟨z, _ | ⟨w, _ | _⟩⟩⟩⟩
  · rfl
  · rcases hc with rfl | rfl | rfl <;> rfl
  · exact absurd rfl h2
  · rfl
  · rcases hc with rfl | rfl | rfl <;> rfl
  · rfl
theorem ptk_n1 {c : Nat} {l : List Nat} (hc : c = 101 ∨ c = 119 ∨ c = 108) (h2 : l.length ≠ 1) : ptk p c l = none := by
  rcases l with _ | ⟨x, _ | ⟨y, _ | ⟨z, _ | ⟨w, _ | _⟩⟩⟩⟩
  · rfl
  · exact absurd rfl h2
  · rcases hc with rfl | rfl | rfl <;> rfl
  · rfl
  · rcases hc with rfl | rfl | rfl <;> rfl
  · rfl
theorem ptk_n4 {l : List Nat} (h2 : l.length ≠ 4) : ptk p 103 l = none := by
  rcases l with _ | ⟨x, _ | ⟨y, _ | ⟨z, _ | ⟨w, _ | _⟩⟩⟩⟩
  · rfl
  · rfl
  · rfl
  · rfl
  · exact absurd rfl h2
  · rfl
theorem PW.V {p : Nat → Int32} (h : PW p) : ∃ r c, p 0 = nI r ∧ p 1 = nI c ∧ (2 ≤ r ∧ r ≤ 6) ∧ (2 ≤ c ∧ c ≤ 6) ∧ prc p = r * c := by
  obtain ⟨⟨r, hr, r1, r2⟩, ⟨c, hc, c1, c2⟩, -⟩ := h
  refine ⟨r, c, hr, hc, ⟨r1, r2⟩, ⟨c1, c2⟩, ?_⟩
  unfold prc
  rw [hr, hc, nI_clamp (by omega), nI_clamp (by omega)]
theorem e29 {l : List Nat} {x1 : Int32} {c : Nat} (hx1 : (x1 = nI 1 ∧ c = 112) ∨ (x1 = nI 0 ∧ c = 105)) (hw : PW p.1) (hc : CS p.1 ct) (hv : CV false ct) (hb : NB ct l) (hl : 1 ≤ l.length ∧ l.length ≤ 4 ∧ ∀ x, x ∈ l → x ≤ 99) : CE X (d + 2) 29 [.ref 1, .int x1] D ct (fun v D' ct' => PT p c l ct v D D' ct') := by
  refine CE_of (Nat.le_of_ble_eq_true rfl) ?_
  have no : ptk p c l = none → zQ (fun v D' ct' => PT p c l ct v D D' ct') (some (.int (nI 0))) (mk D ct) := fun e => zQ_of ⟨rfl, FR.r ct, Or.inl ⟨e, rfl⟩⟩
  have hcc : c = 118 ∨ c = 112 ∨ c = 105 := by omega
  refine b29_0 (fun z => ?_) (fun z => b29_39 (no (ptk_n2 hcc fun e => z (by rw [hb.1, e]))))
  rw [hb.1, zeq (by omega) (by omega)] at z
  obtain ⟨x, y, rfl⟩ := len2 z
  have hx : x ≤ 99 := hl.2.2 x (by simp)
  have hy : y ≤ 99 := hl.2.2 y (by simp)
  have e0 : ct 10 0 = nI x := hb.2 0 (by simp)
  have e1 : ct 10 1 = nI y := hb.2 1 (by simp)
  have ept : ptk p c [x, y] = if (c = 112 ∨ c = 105) ∧ x < prc p.1 ∧ y < 8 then some ((if c = 112 then upd (upd p.1 (9 + x) (nI y)) (45 + x) (nI y) else upd p.1 (45 + x) (nI y)), false) else none := by
    unfold ptk
    dsimp only
    rw [if_neg (show ¬ c = 118 by omega)]
  obtain ⟨r, m, hr, hm, hr2, hm2, erc⟩ := hw.V
  have hV : zV ct 3 r m := ⟨hc.1.1.trans hr, hc.1.2.1.trans hm, hr2, hm2⟩
  have h36 : r * m ≤ 36 := Nat.mul_le_mul hr2.2 hm2.2
  rw [e0, e1]
  by_cases hin : x < prc p.1
  · rw [erc] at hin
    refine b29_22 (e30y rfl hV hin) (b29_30 (fun z => absurd z (by decide)) (fun _ => b29_33 (fun z2 => ?_) (fun z2 => b29_39 (no ?_))))
    · rw [zlt (by omega) (by omega)] at z2
      have hk : ptk p c [x, y] = some ((if c = 112 then upd (upd p.1 (9 + x) (nI y)) (45 + x) (nI y) else upd p.1 (45 + x) (nI y)), false) := by
        rw [ept, if_pos ⟨by omega, by rw [erc]; exact hin, z2⟩]
      rcases hx1 with ⟨rfl, rfl⟩ | ⟨rfl, rfl⟩
      · rw [if_pos rfl] at hk
        refine b29_41 (fun z => absurd z (by decide)) (fun _ => b29_45 (j54 := x) (zix_nI (by omega) (by decide)) (e31 rfl (by omega)) (b29_65 (zQ_of ⟨rfl, ⟨fun b z1 z2 => by rw [u2_n (by omega), u2_n (by omega), u2_n (by omega)], fun j z1 z2 => by rw [u2_n (by omega), u2_n (by omega), u2_n (by omega)]⟩, Or.inr ⟨_, hk, rfl, ⟨?_, fun j hj => ?_, fun j hj => ?_, ?_⟩, ?_⟩⟩)))
        · dsimp only
          rw [u2_n (by omega), u2_n (by omega), u2_n (by omega), pk_un (by omega), pk_un (by omega), pk_un (by omega), pk_un (by omega), pk_un (by omega), pk_un (by omega)]
          exact hc.1
        · dsimp only
          rw [u2_n (by omega), u2_n (by omega), u2_a, pk_un (by omega)]
          by_cases e : j = x
          · rw [if_pos ⟨rfl, e⟩, e, pk_us]
          · rw [if_neg (fun z => e z.2), pk_un (by omega)]; exact hc.2.1 j hj
        · dsimp only
          rw [u2_n (by omega), u2_n (by omega), u2_n (by omega), pk_un (by omega), pk_un (by omega)]
          exact hc.2.2.1 j hj
        · dsimp only
          rw [stw_i (by omega), stw_u (by omega)]
          exact zTm_pl (a := 6) (hc.2.2.2.keep fun b z1 z2 => by rw [u2_n (by omega)]) (by omega)
        · unfold CV
          rw [u2_n (by omega), u2_n (by omega), u2_n (by omega)]
          exact hv
      · rw [if_neg (by decide)] at hk
        refine b29_41 (fun _ => b29_55 (e31 rfl (by omega)) (b29_65 (zQ_of ⟨rfl, ⟨fun b z1 z2 => by rw [u2_n (by omega), u2_n (by omega)], fun j z1 z2 => by rw [u2_n (by omega), u2_n (by omega)]⟩, Or.inr ⟨_, hk, rfl, ⟨?_, fun j hj => ?_, fun j hj => ?_, ?_⟩, ?_⟩⟩))) (fun z => absurd rfl z)
        · dsimp only
          rw [u2_n (by omega), u2_n (by omega), pk_un (by omega), pk_un (by omega), pk_un (by omega)]
          exact hc.1
        · dsimp only
          rw [u2_n (by omega), u2_n (by omega), pk_un (by omega)]
          exact hc.2.1 j hj
        · dsimp only
          rw [u2_n (by omega), u2_n (by omega), pk_un (by omega)]
          exact hc.2.2.1 j hj
        · dsimp only
          rw [stw_i (by omega)]
          exact zTm_pl (a := 6) hc.2.2.2 (by omega)
        · unfold CV
          rw [u2_n (by omega), u2_n (by omega)]
          exact hv
    · rw [zlt (by omega) (by omega)] at z2
      rw [ept, if_neg (fun w => z2 w.2.2)]
  · rw [erc] at hin
    refine b29_22 (e30n rfl hV ?_) (b29_30 (fun _ => b29_39 (no ?_)) (fun z => absurd rfl z))
    · rintro ⟨j, hj, hj2⟩
      rw [zeq (by omega) (by omega)] at hj2
      omega
    · rw [ept, if_neg (fun w => hin (by rw [← erc]; exact w.2.1))]
theorem e32 {l : List Nat} (hc : CS p.1 ct) (hv : CV false ct) (hb : NB ct l) (hl : 1 ≤ l.length ∧ l.length ≤ 4 ∧ ∀ x, x ∈ l → x ≤ 99) : CE X (d + 1) 32 [.ref 1] D ct (fun v D' ct' => PT p 103 l ct v D D' ct') := by
  refine CE_of (Nat.le_of_ble_eq_true rfl) ?_
  have no : ptk p 103 l = none → zQ (fun v D' ct' => PT p 103 l ct v D D' ct') (some (.int (nI 0))) (mk D ct) := fun e => zQ_of ⟨rfl, FR.r ct, Or.inl ⟨e, rfl⟩⟩
  refine b32_0 (fun z => ?_) (fun z => b32_8 (no (ptk_n4 fun e => z (by rw [hb.1, e]))))
  rw [hb.1, zeq (by omega) (by omega)] at z
  obtain ⟨x, y, u, w, rfl⟩ := len4 z
  have e0 : ct 10 0 = nI x := hb.2 0 (by simp)
  have e1 : ct 10 1 = nI y := hb.2 1 (by simp)
  have e2 : ct 10 2 = nI u := hb.2 2 (by simp)
  have e3 : ct 10 3 = nI w := hb.2 3 (by simp)
  have hx : x ≤ 99 := hl.2.2 x (by simp)
  have hy : y ≤ 99 := hl.2.2 y (by simp)
  have hu : u ≤ 99 := hl.2.2 u (by simp)
  have hw : w ≤ 99 := hl.2.2 w (by simp)
  have ept : ptk p 103 [x, y, u, w] = if x + y + u + w = 10 then some (upd (upd (upd (upd p.1 3 (nI x)) 4 (nI y)) 5 (nI u)) 6 (nI w), false) else none := by
    unfold ptk
    dsimp only
    simp only [true_and]
  refine b32_10 ?_
  refine b32_14 (fun z => absurd z (by decide)) (fun _ => b32_19 (fun z => absurd z (by decide)) (fun _ => b32_24 (j30 := 0) (zix_nI (by decide) (by decide)) ?_))
  rw [e0, nI_add, nI_add]
  refine b32_14 (fun z => absurd z (by decide)) (fun _ => b32_19 (fun z => absurd z (by decide)) (fun _ => b32_24 (j30 := 1) (zix_nI (by decide) (by decide)) ?_))
  rw [e1, nI_add, nI_add]
  refine b32_14 (fun z => absurd z (by decide)) (fun _ => b32_19 (fun z => absurd z (by decide)) (fun _ => b32_24 (j30 := 2) (zix_nI (by decide) (by decide)) ?_))
  rw [e2, nI_add, nI_add]
  refine b32_14 (fun z => absurd z (by decide)) (fun _ => b32_19 (fun z => absurd z (by decide)) (fun _ => b32_24 (j30 := 3) (zix_nI (by decide) (by decide)) ?_))
  rw [e3, nI_add, nI_add]
  refine b32_14 (fun _ => ?_) (fun z => absurd (by decide) z)
  refine b32_39 (fun z => ?_) (fun z => b32_45 (no ?_))
  · rw [zeq (by omega) (by omega)] at z
    refine b32_47 ?_
    refine b32_49 (fun z => absurd z (by decide)) (fun _ => b32_54 (fun z => absurd z (by decide)) (fun _ => b32_59 (j72 := 0) (j73 := 0) (zix_nI (by decide) (by decide)) (zix_nI (by decide) (by decide)) ?_))
    rw [e0, nI_add]
    refine b32_49 (fun z => absurd z (by decide)) (fun _ => b32_54 (fun z => absurd z (by decide)) (fun _ => b32_59 (j72 := 1) (j73 := 1) (zix_nI (by decide) (by decide)) (zix_nI (by decide) (by decide)) ?_))
    rw [u2_n (show (10 : Nat) ≠ 5 by decide), e1, nI_add]
    refine b32_49 (fun z => absurd z (by decide)) (fun _ => b32_54 (fun z => absurd z (by decide)) (fun _ => b32_59 (j72 := 2) (j73 := 2) (zix_nI (by decide) (by decide)) (zix_nI (by decide) (by decide)) ?_))
    rw [u2_n (show (10 : Nat) ≠ 5 by decide), u2_n (show (10 : Nat) ≠ 5 by decide), e2, nI_add]
    refine b32_49 (fun z => absurd z (by decide)) (fun _ => b32_54 (fun z => absurd z (by decide)) (fun _ => b32_59 (j72 := 3) (j73 := 3) (zix_nI (by decide) (by decide)) (zix_nI (by decide) (by decide)) ?_))
    rw [u2_n (show (10 : Nat) ≠ 5 by decide), u2_n (show (10 : Nat) ≠ 5 by decide), u2_n (show (10 : Nat) ≠ 5 by decide), e3, nI_add]
    refine b32_49 (fun _ => ?_) (fun z => absurd (by decide) z)
    have kf : ∀ b, b ≠ 5 → (u2 (u2 (u2 (u2 ct 5 0 (nI x)) 5 1 (nI y)) 5 2 (nI u)) 5 3 (nI w)) b = ct b := fun b hb => by rw [u2_n hb, u2_n hb, u2_n hb, u2_n hb]
    refine b32_80 (zQ_of ⟨rfl, ⟨fun b z1 z2 => kf b (by omega), fun j z1 z2 => by rw [kf 1 (by decide)]⟩, Or.inr ⟨_, ept.trans (if_pos (by omega)), rfl, ⟨?_, fun j hj => ?_, fun j hj => ?_, ?_⟩, ?_⟩⟩)
    · dsimp only
      rw [kf 3 (by decide), pk_un (by omega), pk_un (by omega), pk_un (by omega), pk_un (by omega), pk_un (by omega), pk_un (by omega), pk_un (by omega), pk_un (by omega), pk_un (by omega), pk_un (by omega), pk_un (by omega), pk_un (by omega)]
      exact hc.1
    · dsimp only
      rw [kf 4 (by decide), pk_un (by omega), pk_un (by omega), pk_un (by omega), pk_un (by omega)]
      exact hc.2.1 j hj
    · rcases (show j = 0 ∨ j = 1 ∨ j = 2 ∨ j = 3 by omega) with rfl | rfl | rfl | rfl <;> rfl
    · dsimp only
      rw [stw_u (by omega), stw_u (by omega), stw_u (by omega), stw_u (by omega)]
      exact hc.2.2.2.keep fun b z1 z2 => kf b (by omega)
    · unfold CV
      rw [kf 1 (by decide)]
      exact hv
  · rw [zeq (by omega) (by omega)] at z
    rw [ept, if_neg (by omega)]
end
