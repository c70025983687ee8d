/-! The class lays what it read. -/
def LY (n : Nat) (t : Nat → Nat) : Option (Nat → Int32) := if n = 0 then none else match (prd n t 200 (pd0, true) 0).1 with
  | some _ => none
  | none => if prc (prd n t 200 (pd0, true) 0).2 ≤ ((prd n t 200 (pd0, true) 0).2 8).toNatClampNeg then none else some (prd n t 200 (pd0, true) 0).2
/-- p is laid -/
def PL (p : Nat → Int32) (ct ct' : zM) : Prop := (ct' 11 0 = p 0 ∧ ct' 11 1 = p 1 ∧ ct' 11 2 = p 2) ∧ (∀ j, j < 36 → ct' 12 j = p (9 + j)) ∧ (∀ j, j < 4 → ct' 13 j = p (3 + j)) ∧ zTm ct' 14 (stw p) ∧ (∀ f h, CR ct' 18 f 0 h) ∧ (∀ f h, CR ct' 20 f 0 h) ∧ ct' 0 10 = nI 0 ∧ (∀ b, ¬ (3 ≤ b ∧ b ≤ 18) → b ≠ 0 → b ≠ 1 → b ≠ 20 → ct' b = ct b) ∧ (∀ j, j ≠ 5 → j ≠ 6 → ct' 1 j = ct 1 j) ∧ ∀ j, j ≠ 10 → ct' 0 j = ct 0 j
section
variable {X : Nat × (Nat → Int32)} {D : zD} {ct σ : zM} {d n a : Nat} {t : Nat → Nat}
theorem e33 : CE X (d + 1) 33 [.ref 11, .ref 3] D ct (fun v D' ct' => v = none ∧ D = D' ∧ (∀ b, ¬ (11 ≤ b ∧ b ≤ 13) → ct' b = ct b) ∧ (ct' 11 0 = ct 3 0 ∧ ct' 11 1 = ct 3 1 ∧ ct' 11 2 = ct 3 2) ∧ (∀ j, j < 36 → ct' 12 j = ct 4 j) ∧ ∀ j, j < 4 → ct' 13 j = ct 5 j) := by
  refine CE_of (Nat.le_of_ble_eq_true rfl) ?_
  refine b33_0 rfl rfl ?_
  refine z_loop0 36 (fun i ls ct1 => ls = [.ref 11, .ref 3, .int (nI i)] ∧ (∀ b, ¬ (11 ≤ b ∧ b ≤ 13) → ct1 b = ct b) ∧ (ct1 11 0 = ct 3 0 ∧ ct1 11 1 = ct 3 1 ∧ ct1 11 2 = ct 3 2) ∧ (∀ j, j < i → ct1 12 j = ct 4 j)) ⟨rfl, fun b hb => by rw [u2_n (by omega), u2_n (by omega), u2_n (by omega)], ⟨?_, ?_, ?_⟩, fun j hj => by omega⟩ ?_ ?_
  · rw [u2_a, if_neg (by omega), u2_a, if_neg (by omega), u2_a, if_pos ⟨rfl, rfl⟩]
  · rw [u2_a, if_neg (by omega), u2_a, if_pos ⟨rfl, rfl⟩, u2_n (by decide)]
  · rw [u2_a, if_pos ⟨rfl, rfl⟩, u2_n (by decide), u2_n (by decide)]
  · rintro i _ ct1 hi ⟨rfl, h1, h2, h3⟩ ih
    have zx : zix (nI i) i 36 := zix_nI hi (by decide)
    refine b33_26 rfl rfl (fun z => ?_) (fun _ => b33_32 rfl rfl zx zx (ih _ _ ⟨by rw [nI_add], fun b hb => by rw [u2_n (by omega)]; exact h1 b hb, by rw [u2_n (by omega)]; exact h2, fun j hj => ?_⟩))
    · rw [zle (by omega) (by omega)] at z; omega
    · rw [u2_a]
      by_cases e : j = i
      · rw [if_pos ⟨rfl, e⟩, h1 (3 + 1) (by omega), e]
      · rw [if_neg (fun z => e z.2)]; exact h3 j (by omega)
  · rintro _ ct1 ⟨rfl, h1, h2, h3⟩
    refine b33_26 rfl rfl (fun _ => b33_50 rfl rfl ?_) (fun z => absurd ((zle (by omega) (by omega)).2 (Nat.le_refl 36)) z)
    refine z_loop0 4 (fun i ls ct2 => ls = [.ref 11, .ref 3, .int (nI i)] ∧ (∀ b, b ≠ 13 → ct2 b = ct1 b) ∧ (∀ j, j < i → ct2 13 j = ct 5 j)) ⟨rfl, fun _ _ => rfl, fun j hj => by omega⟩ ?_ ?_
    · rintro i _ ct2 hi ⟨rfl, k1, k2⟩ ih
      have zx : zix (nI i) i 4 := zix_nI hi (by decide)
      refine b33_52 rfl rfl (fun z => ?_) (fun _ => b33_57 rfl rfl zx zx (ih _ _ ⟨by rw [nI_add], fun b hb => by rw [u2_n hb]; exact k1 b hb, fun j hj => ?_⟩))
      · rw [zle (by omega) (by omega)] at z; omega
      · rw [u2_a]
        by_cases e : j = i
        · rw [if_pos ⟨rfl, e⟩, k1 (3 + 2) (by omega), h1 (3 + 2) (by omega), e]
        · rw [if_neg (fun z => e z.2)]; exact k2 j (by omega)
    · rintro _ ct2 ⟨rfl, k1, k2⟩
      refine b33_52 rfl rfl (fun _ => b33_75 rfl rfl (zQ_of ⟨rfl, rfl, fun b hb => by rw [k1 b (by omega)]; exact h1 b hb, by rw [k1 11 (by decide)]; exact h2, fun j hj => by rw [k1 12 (by decide)]; exact h3 j hj, k2⟩)) (fun z => absurd ((zle (by omega) (by omega)).2 (Nat.le_refl 4)) z)
theorem e20 (h : TX n t ct) : CE X (d + 5) 20 [.ref 0] D ct (fun v D' ct' => D = D' ∧ ((LY n t = none ∧ v = some (.int (-2)) ∧ FR ct ct') ∨ ∃ p, LY n t = some p ∧ v = some (.int (nI (prc p))) ∧ PL p ct ct')) := by
  have hn := h.2.1
  have hpw : PW (prd n t 200 (pd0, true) 0).2 := prd_w _ _ _ pd0_w
  have hx : ∀ x, (prd n t 200 (pd0, true) 0).1 = some x → x < n := prd_le _ _ _
  refine CE_of (Nat.le_of_ble_eq_true rfl) ?_
  refine b20_0 (fun z => b20_22 (zQ_of ⟨rfl, Or.inl ⟨?_, rfl, FR.r ct⟩⟩)) (fun z => ?_)
  · rw [h.1, zeq (by omega) (by omega)] at z
    unfold LY
    rw [if_pos z]
  rw [h.1, zeq (by omega) (by omega)] at z
  obtain ⟨_, _, ct1, he, rfl, hf, rfl, hcs⟩ := e21 (X := X) (D := D) (d := d) h
  refine b20_10 he ?_
  have eL : LY n t = match (prd n t 200 (pd0, true) 0).1 with
    | some _ => none
    | none => if prc (prd n t 200 (pd0, true) 0).2 ≤ ((prd n t 200 (pd0, true) 0).2 8).toNatClampNeg then none else some (prd n t 200 (pd0, true) 0).2 := by
    unfold LY
    rw [if_neg z]
  generalize prd n t 200 (pd0, true) 0 = R at *
  obtain ⟨o, p⟩ := R
  dsimp only at *
  rcases o with _ | x
  · dsimp only at eL
    refine b20_17 (fun _ => ?_) (fun z => absurd rfl z)
    have hc := hcs rfl
    obtain ⟨r, m, hr, hm, hr2, hm2, erc⟩ := hpw.V
    obtain ⟨e, he99, hee⟩ := hpw.2.2.2.2.1
    have hV : zV ct1 3 r m := ⟨hc.1.1.trans hr, hc.1.2.1.trans hm, hr2, hm2⟩
    have h36 : r * m ≤ 36 := Nat.mul_le_mul hr2.2 hm2.2
    have e64 : ct1 6 4 = nI e := hc.2.2.2.2.2.1.trans hee
    have e8 : (p 8).toNatClampNeg = e := by rw [hee, nI_clamp (by omega)]
    by_cases hin : e < r * m
    · rw [if_neg (by rw [erc, e8]; omega)] at eL
      refine b20_25 (by rw [e64]; exact e30y rfl hV hin) (b20_45 (fun z => absurd z (by decide)) (fun _ => ?_))
      obtain ⟨_, _, ct2, he2, rfl, rfl, g1, g2, g3, g4⟩ := e33 (X := X) (D := D) (ct := ct1) (d := d + 3)
      refine b20_51 he2 ?_
      have hm6 : zTm ct2 6 (stw p) := hc.2.2.2.keep fun b z1 z2 => g1 b (by omega)
      obtain ⟨_, _, ct3, he3, rfl, rfl, g5, g6⟩ := e34 (X := X) (D := D) (ct := ct2) (d := d + 3) (a := 14) (o := 6) rfl rfl (by decide) (fun j hj => by
        rw [(hm6.1 j hj).2.2]
        unfold stw
        rw [if_neg (by omega), if_neg (by omega), if_neg (by omega)]
        exact Or.inl rfl)
      refine b20_65 he3 (b20_79 (e35 rfl) (b20_86 (e35 rfl) ?_))
      have kz : ∀ b, ¬ (14 ≤ b ∧ b ≤ 18) → b ≠ 0 → b ≠ 20 → (u2 (u2 (u2 (u2 (u2 ct3 18 1 (nI 0)) 18 2 (nI 0)) 20 1 (nI 0)) 20 2 (nI 0)) 0 10 (nI 0)) b = ct2 b := by
        intro b z1 z2 z3
        rw [u2_n z2, u2_n z3, u2_n z3, u2_n (by omega), u2_n (by omega)]
        exact g6 b (by omega)
      have k14 : ∀ b, 14 ≤ b → b ≤ 17 → (u2 (u2 (u2 (u2 (u2 ct3 18 1 (nI 0)) 18 2 (nI 0)) 20 1 (nI 0)) 20 2 (nI 0)) 0 10 (nI 0)) b = ct3 b := by
        intro b z1 z2
        rw [u2_n (by omega), u2_n (by omega), u2_n (by omega), u2_n (by omega), u2_n (by omega)]
      refine b20_93 (v1 := nI (r * m)) (e36 rfl ⟨?_, ?_, hr2, hm2⟩) (b20_105 (zQ_of ⟨rfl, Or.inr ⟨p, eL, by rw [erc], ⟨?_, ?_, ?_⟩, fun j hj => ?_, fun j hj => ?_, (hm6.of g5).keep fun b z1 z2 => k14 b z1 z2, fun f h => ?_, fun f h => ?_, ?_, fun b z1 z2 z3 z4 => ?_, fun j z1 z2 => ?_, fun j hj => ?_⟩⟩))
      · rw [kz 11 (by omega) (by omega) (by omega), g2.1]; exact hV.1
      · rw [kz 11 (by omega) (by omega) (by omega), g2.2.1]; exact hV.2.1
      · rw [kz 11 (by omega) (by omega) (by omega), g2.1]; exact hc.1.1
      · rw [kz 11 (by omega) (by omega) (by omega), g2.2.1]; exact hc.1.2.1
      · rw [kz 11 (by omega) (by omega) (by omega), g2.2.2]; exact hc.1.2.2
      · rw [kz 12 (by omega) (by omega) (by omega), g3 j hj]; exact hc.2.1 j hj
      · rw [kz 13 (by omega) (by omega) (by omega), g4 j hj]; exact hc.2.2.1 j hj
      · refine ⟨?_, 0, by decide, ?_, fun i hi => by omega⟩
        · rw [u2_n (by decide), u2_n (by decide), u2_n (by decide), u2_a, if_pos ⟨rfl, rfl⟩]
        · rw [u2_n (by decide), u2_n (by decide), u2_n (by decide), u2_a, if_neg (by omega), u2_a, if_pos ⟨rfl, rfl⟩]
      · refine ⟨?_, 0, by decide, ?_, fun i hi => by omega⟩
        · rw [u2_n (by decide), u2_a, if_pos ⟨rfl, rfl⟩]
        · rw [u2_n (by decide), u2_a, if_neg (by omega), u2_a, if_pos ⟨rfl, rfl⟩]
      · rw [u2_a, if_pos ⟨rfl, rfl⟩]
      · rw [kz b (by omega) z2 z4, g1 b (by omega)]; exact hf.1 b (by omega) z3
      · rw [kz 1 (by omega) (by omega) (by omega), g1 1 (by omega)]; exact hf.2 j z1 z2
      · rw [u2_a, if_neg (by omega), u2_n (by decide), u2_n (by decide), u2_n (by decide), u2_n (by decide), g6 0 (by omega), g1 0 (by omega), hf.1 0 (by omega) (by omega)]
    · rw [if_pos (by rw [erc, e8]; omega)] at eL
      refine b20_25 (by rw [e64]; exact e30n rfl hV (by
        rintro ⟨j, hj, hj2⟩
        rw [zeq (by omega) (by omega)] at hj2
        omega)) (b20_45 (fun _ => b20_48 (zQ_of ⟨rfl, Or.inl ⟨eL, rfl, hf⟩⟩)) (fun z => absurd rfl z))
  · dsimp only at eL
    refine b20_17 (fun z2 => ?_) (fun _ => b20_22 (zQ_of ⟨rfl, Or.inl ⟨eL, rfl, hf⟩⟩))
    exact absurd z2.symm (nI_ne4 (j := x) (by have := hx x rfl; omega))
theorem TX_of (h : WF σ) (ha : CX σ ct) : TX (sn σ) (fun j => (σ 4 j).toNatClampNeg) ct := by
  refine ⟨ha.1.trans h.2.2.2.2.2.2.1.1, h.np, fun j hj => ?_⟩
  obtain ⟨q, q1, q2, q3⟩ := h.lt j hj
  dsimp only
  rw [ha.2 j hj, q3, nI_clamp (by omega)]
  exact ⟨rfl, q2⟩
theorem PC_fr {ct' : zM} (ha : CA σ D ct) (k : FR ct ct') : PC σ D ct D ct' :=
  ⟨ha.keep (fun b hb => k.1 b (by unfold cRow at hb; omega) (by unfold cRow at hb; omega)) (by rw [k.1 0 (by omega) (by omega)]) (k.2 1 (by decide) (by decide)), fun b hb => k.1 b (by unfold mRow at hb; omega) (by unfold mRow at hb; omega), Nat.le_refl _, Nat.le_succ _⟩
def st (σ : zM) : Nat → Nat := fun j => (σ 4 j).toNatClampNeg
def f39 (σ : zM) : Int32 := fa (prd (sn σ) (st σ) 200 (pd0, true) 0).1
theorem k39 (h : WF σ) (ha : CA σ D ct) : CE X (d + 5) 39 [.ref 0] D ct (fun v D' ct' => v = some (.int (f39 σ)) ∧ PC σ D ct D' ct') := by
  refine CE_of (Nat.le_of_ble_eq_true rfl) ?_
  obtain ⟨_, _, ct1, he, rfl, hf, rfl, -⟩ := e21 (X := X) (D := D) (d := d) (TX_of h ha.2.2.2.2.2.2)
  exact b39_0 he (b39_7 (zQ_of ⟨rfl, PC_fr ha hf⟩))
def sLay (σ : zM) (p : Nat → Int32) : zM := fun b => if b = 0 then (fun j => if j < 3 then p j else if j < 6 then nI 0 else σ 0 j) else if b = 1 then (fun j => p (9 + j)) else if b = 2 then (fun j => p (3 + j)) else if b = 3 then stw p else σ b
def g40 (σ : zM) : Int32 × zM := match LY (sn σ) (st σ) with
  | none => ((-2), σ)
  | some p => (nI (prc p), sLay σ p)
theorem LY_w {p : Nat → Int32} (h : LY n t = some p) : PW p ∧ (p 8).toNatClampNeg < prc p := by
  have hpw : PW (prd n t 200 (pd0, true) 0).2 := prd_w _ _ _ pd0_w
  unfold LY at h
  split at h
  · cases h
  · split at h
    · cases h
    · split at h
      · cases h
      · cases h
        exact ⟨hpw, by omega⟩
theorem LY_v {p : Nat → Int32} (h : LY n t = some p) : zwi (p 7) := by
  have hpw : zwi ((prd n t 200 (pd0, true) 0).2 7) := prd_v _ _ _ ⟨0, by decide, rfl⟩
  unfold LY at h
  split at h
  · cases h
  · split at h
    · cases h
    · split at h
      · cases h
      · cases h
        exact hpw
theorem k40 (h : WF σ) (ha : CA σ D ct) : CE X (d + 6) 40 [.ref 0] D ct (fun v D' ct' => v = some (.int (g40 σ).1) ∧ PC (g40 σ).2 D ct D' ct') := by
  refine CE_of (Nat.le_of_ble_eq_true rfl) ?_
  obtain ⟨v, _, ct1, he, rfl, q⟩ := e20 (X := X) (D := D) (d := d) (TX_of h ha.2.2.2.2.2.2)
  unfold g40
  rcases q with ⟨q1, rfl, q2⟩ | ⟨p, q1, rfl, q2⟩
  · rw [show LY (sn σ) (st σ) = none from q1]
    exact b40_0 he (b40_4 (zQ_of ⟨rfl, PC_fr ha q2⟩))
  · rw [show LY (sn σ) (st σ) = some p from q1]
    obtain ⟨p1, p2, p3, p4, p5, p6, p7, p8, p9, p10⟩ := q2
    refine b40_0 he (b40_4 (zQ_of ⟨rfl, ⟨⟨p1.1, p1.2.1, p1.2.2, p2, p3⟩, p4, ?_, ?_, ha.2.2.2.2.1, ⟨p7, fun i hi => ?_⟩, ?_⟩, fun b hb => p8 b (by unfold mRow at hb; omega) (by unfold mRow at hb; omega) (by unfold mRow at hb; omega) (by unfold mRow at hb; omega), Nat.le_refl _, Nat.le_succ _⟩))
    · have e : su (sLay σ p) = 0 := nI_clamp (by decide)
      show CR _ 18 D.2.1 (su (sLay σ p)) _
      rw [e]
      exact p5 _ _
    · have e : sk (sLay σ p) = 0 := nI_clamp (by decide)
      show CR _ 20 D.2.2 (sk (sLay σ p)) _
      rw [e]
      exact p6 _ _
    · have e : sf (sLay σ p) = 0 := nI_clamp (by decide)
      have hi2 : i < sf (sLay σ p) := hi
      omega
    · have := ha.2.2.2.2.2.2
      refine ⟨(p9 1 (by decide) (by decide)).trans this.1, fun j hj => ?_⟩
      rw [p8 2 (by omega) (by omega) (by omega) (by omega)]
      exact this.2 j hj
theorem WF_lay {p : Nat → Int32} (h6 : σ 0 6 = nI (sn σ) ∧ sn σ ≤ 200) (h13 : ∀ j, j < sn σ → ∃ q, 32 ≤ q ∧ q ≤ 126 ∧ σ 4 j = nI q) (hp : PW p ∧ (p 8).toNatClampNeg < prc p) (hv : zwi (p 7)) : WF (sLay σ p) := by
  obtain ⟨hw, he⟩ := hp
  obtain ⟨r, m, hr, hm, hr2, hm2, erc⟩ := hw.V
  obtain ⟨-, -, h3, h4, ⟨e, e99, he2⟩, h5⟩ := hw
  have er : sr (sLay σ p) = r := by show (p 0).toNatClampNeg = r; rw [hr, nI_clamp (by omega)]
  have em : sc (sLay σ p) = m := by show (p 1).toNatClampNeg = m; rw [hm, nI_clamp (by omega)]
  have eu : su (sLay σ p) = 0 := nI_clamp (by decide)
  have ek : sk (sLay σ p) = 0 := nI_clamp (by decide)
  have ef : sf (sLay σ p) = 0 := nI_clamp (by decide)
  refine ⟨⟨?_, ?_⟩, ⟨?_, ?_⟩, h3, ⟨?_, ?_⟩, ⟨?_, ?_⟩, ⟨?_, ?_⟩, h6, fun j hj => (h5 j hj).1, h4, ?_, fun i hi => ?_, fun i hi => ?_, h13, ?_, fun i hi => ?_, fun i hi => ?_, fun i hi => ?_⟩
  · rw [er]; exact hr
  · rw [er]; exact hr2
  · rw [em]; exact hm
  · rw [em]; exact hm2
  · rw [eu]; rfl
  · rw [eu]; decide
  · rw [ek]; rfl
  · rw [ek]; decide
  · rw [ef]; rfl
  · rw [ef]; decide
  · rw [er, em, ← erc]
    show zOk (prc p) (stw p)
    refine ⟨fun j hj => ⟨?_, ?_⟩, e, ?_, he2⟩
    · unfold stw; rw [if_pos hj]; exact (h5 j hj).2
    · unfold stw; rw [if_neg (by omega), if_neg (by omega), if_neg (by omega)]; exact Or.inl rfl
    · rw [he2, nI_clamp (by omega)] at he; exact he
  · rw [eu] at hi; omega
  · rw [ek] at hi; omega
  · show zwi (stw p 108)
    unfold stw
    rw [if_neg (by omega), if_pos rfl]
    exact hv
  · rw [eu] at hi; omega
  · rw [ek] at hi; omega
  · rw [ef] at hi; omega
theorem WF_40 (h : WF σ) : WF (g40 σ).2 := by
  unfold g40
  rcases e : LY (sn σ) (st σ) with _ | p
  · exact h
  · exact WF_lay h.2.2.2.2.2.2.1 h.lt (LY_w e) (LY_v e)
end
