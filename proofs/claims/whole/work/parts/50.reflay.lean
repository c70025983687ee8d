/-! The reference: the whole text, and a town laid. -/
section
variable {X : Nat × (Nat → Int32)} {D : zD} {ct σ : zM} {d n a m : Nat} {t : Nat → Nat} {p : (Nat → Int32) × Bool}
theorem PI.base {c : Nat} {ct1 ct' : zM} {v : Option Value} {D' : zD} (g : GR ct ct1) (h : PI n t p c a ct1 D v D' ct') : PI n t p c a ct D v D' ct' := ⟨h.1, g.t h.2.1, h.2.2⟩
theorem PI.v {c : Nat} {ct' : zM} {v : Option Value} {D' : zD} (h : PI n t p c a ct D v D' ct') : ∃ x, v = some (.int x) ∧ zb x := by
  rcases h.2.2 with ⟨-, q⟩ | ⟨q, e, -, q2, -⟩
  · exact ⟨_, q, Or.inl rfl⟩
  · exact ⟨_, q2, Or.inr rfl⟩
theorem e111 (hw : PW p.1) (h : TM n t ct) (ha : a < n) (h13 : ct 33 13 = nI a) (hr : RS p ct) : CE X (d + 4) 111 [.ref 33] (zDm D) ct (PI n t p (t a) (a + 1) ct D) := by
  have hn := h.2.1
  have h126 := (h.2.2 a ha).2
  have vv : hv n t a = nI (t a) := if_pos ha
  have eplus : ct 33 13 + nI 1 = nI (a + 1) := by rw [h13, nI_add]
  have g1 : GR ct (u2 ct 33 13 (nI (a + 1))) := ⟨fun b h1 _ _ => u2_n h1, fun j h1 _ => by rw [u2_r, pk_un h1]⟩
  refine CE_of (Nat.le_of_ble_eq_true rfl) (b111_0 (e112 h h13 (by omega)) ?_)
  rw [vv]
  refine b111_4 (fun z => ?_) (fun z => ?_)
  · rw [zeq (by omega) (by omega)] at z
    rw [eplus]
    have r1 : RS p (u2 ct 33 13 (nI (a + 1))) := ⟨fun j hj => by rw [u2_n (by decide)]; exact hr.1 j hj, by rw [u2_r, pk_un (by decide)]; exact hr.2⟩
    obtain ⟨v, D1, ct1, he, hp⟩ := e113 (X := X) (D := D) (d := d) (h.gr g1) (a := a + 1) (by omega) (by rw [u2_r, pk_us]) r1
    obtain ⟨x, rfl, hx⟩ := hp.v
    have hp := hp.base g1
    have eD := hp.1
    subst eD
    rw [z]
    exact b111_21 he (b111_25 (zQ_of hp) hx)
  rw [zeq (by omega) (by omega)] at z
  refine b111_26 ?_
  rw [eplus]
  have g2 : GR ct (u2 (u2 ct 33 13 (nI (a + 1))) 33 12 (nI 0)) := g1.t ⟨fun b h1 _ _ => u2_n h1, fun j _ h1 => by rw [u2_r, pk_un h1]⟩
  have hx : (u2 (u2 ct 33 13 (nI (a + 1))) 33 12 (nI 0)) 33 13 = nI (a + 1) := by rw [u2_r, pk_un (by decide), u2_r, pk_us]
  have r2 : RS (p.1, false) (u2 (u2 ct 33 13 (nI (a + 1))) 33 12 (nI 0)) := ⟨fun j hj => by rw [u2_n (by decide), u2_n (by decide)]; exact hr.1 j hj, by rw [u2_r, pk_us]; rfl⟩
  have h2 := h.gr g2
  have hk : (nI (t a)).toInt - 101 = (t a : Int) - 101 := by rw [nI_toInt (by omega)]
  rw [hk]
  by_cases c1 : t a = 101
  · rw [c1]
    refine xsw_in (n := 0) (by decide) rfl ?_
    obtain ⟨v, D1, ct1, he, hp⟩ := e117 (X := X) (D := D) (d := d) (p := p) h2 (a := a + 1) (by omega) hx r2
    obtain ⟨x, rfl, hx⟩ := hp.v
    have hp := hp.base g2
    have eD := hp.1
    subst eD
    exact b111_136 he (b111_140 (zQ_of hp) hx)
  by_cases c2 : t a = 103
  · rw [c2]
    refine xsw_in (n := 2) (by decide) rfl ?_
    obtain ⟨v, D1, ct1, he, hp⟩ := e120 (X := X) (D := D) (d := d) (p := p) h2 (a := a + 1) (by omega) hx r2
    obtain ⟨x, rfl, hx⟩ := hp.v
    have hp := hp.base g2
    have eD := hp.1
    subst eD
    exact b111_151 he (b111_155 (zQ_of hp) hx)
  by_cases c3 : t a = 105
  · rw [c3]
    refine xsw_in (n := 4) (by decide) rfl ?_
    obtain ⟨v, D1, ct1, he, hp⟩ := e115 (X := X) (D := D) (d := d) (p := p) (c := 105) (x1 := nI 0) (Or.inr ⟨rfl, rfl⟩) hw h2 (a := a + 1) (by omega) hx r2
    obtain ⟨x, rfl, hx⟩ := hp.v
    have hp := hp.base g2
    have eD := hp.1
    subst eD
    exact b111_130 he (b111_135 (zQ_of hp) hx)
  by_cases c4 : t a = 108
  · rw [c4]
    refine xsw_in (n := 7) (by decide) rfl ?_
    obtain ⟨v, D1, ct1, he, hp⟩ := e119 (X := X) (D := D) (d := d) (p := p) h2 (a := a + 1) (by omega) hx r2
    obtain ⟨x, rfl, hx⟩ := hp.v
    have hp := hp.base g2
    have eD := hp.1
    subst eD
    exact b111_146 he (b111_150 (zQ_of hp) hx)
  by_cases c5 : t a = 112
  · rw [c5]
    refine xsw_in (n := 11) (by decide) rfl ?_
    obtain ⟨v, D1, ct1, he, hp⟩ := e115 (X := X) (D := D) (d := d) (p := p) (c := 112) (x1 := nI 1) (Or.inl ⟨rfl, rfl⟩) hw h2 (a := a + 1) (by omega) hx r2
    obtain ⟨x, rfl, hx⟩ := hp.v
    have hp := hp.base g2
    have eD := hp.1
    subst eD
    exact b111_124 he (b111_129 (zQ_of hp) hx)
  by_cases c6 : t a = 119
  · rw [c6]
    refine xsw_in (n := 18) (by decide) rfl ?_
    obtain ⟨v, D1, ct1, he, hp⟩ := e118 (X := X) (D := D) (d := d) (p := p) h2 (a := a + 1) (by omega) hx r2
    obtain ⟨x, rfl, hx⟩ := hp.v
    have hp := hp.base g2
    have eD := hp.1
    subst eD
    exact b111_141 he (b111_145 (zQ_of hp) hx)
  have oth : ∀ l, ptk p (t a) l = none := fun l => ptk_oth ⟨c1, c2, c3, c4, c5, z, c6⟩
  have fin : RUN X (EV X (d + 3)) 111 (zQ (PI n t p (t a) (a + 1) ct D)) 156 [.ref 33, .int (nI (t a))] [] (mk (zDm D) (u2 (u2 ct 33 13 (nI (a + 1))) 33 12 (nI 0))) := by
    refine b111_156 (zQ_of ⟨rfl, g2, Or.inl ⟨?_, rfl⟩⟩)
    rcases e : pns n t 4 (a + 1) with _ | ⟨l, b⟩
    · rfl
    · dsimp only
      rw [oth l]
  by_cases lo : t a < 101
  · exact xsw_out (Or.inl (by omega)) fin
  by_cases hi : 120 ≤ t a
  · exact xsw_out (Or.inr (by show (19 : Int) ≤ _; omega)) fin
  have cs : t a = 102 ∨ t a = 104 ∨ t a = 106 ∨ t a = 107 ∨ t a = 109 ∨ t a = 110 ∨ t a = 111 ∨ t a = 113 ∨ t a = 114 ∨ t a = 115 ∨ t a = 116 ∨ t a = 117 := by omega
  generalize t a = c at cs fin ⊢
  rcases cs with rfl | rfl | rfl | rfl | rfl | rfl | rfl | rfl | rfl | rfl | rfl | rfl
  · exact xsw_in (n := 1) (by decide) rfl fin
  · exact xsw_in (n := 3) (by decide) rfl fin
  · exact xsw_in (n := 5) (by decide) rfl fin
  · exact xsw_in (n := 6) (by decide) rfl fin
  · exact xsw_in (n := 8) (by decide) rfl fin
  · exact xsw_in (n := 9) (by decide) rfl fin
  · exact xsw_in (n := 10) (by decide) rfl fin
  · exact xsw_in (n := 12) (by decide) rfl fin
  · exact xsw_in (n := 13) (by decide) rfl fin
  · exact xsw_in (n := 14) (by decide) rfl fin
  · exact xsw_in (n := 15) (by decide) rfl fin
  · exact xsw_in (n := 16) (by decide) rfl fin
theorem e103 : CE X (d + 1) 103 [.ref 33] (zDm D) ct (fun v D' ct' => v = none ∧ zDm D = D' ∧ GR ct ct' ∧ RS (pd0, true) ct') := by
  refine CE_of (Nat.le_of_ble_eq_true rfl) (b103_0 ?_)
  refine z_loop0 81 (fun i ls ct1 => ls = [.ref 33, .int (nI i)] ∧ (∀ b, b ≠ 35 → ct1 b = ct b) ∧ ∀ j, j < i → ct1 35 j = nI 0) ⟨rfl, fun _ _ => rfl, fun j hj => absurd hj (Nat.not_lt_zero _)⟩ ?_ ?_
  · rintro i _ ct1 hi ⟨rfl, g1, g2⟩ ih
    refine b103_2 (fun z => ?_) (fun _ => b103_8 (zix_nI hi (by decide)) (ih _ _ ⟨by rw [nI_add], fun b hb => by rw [u2_n hb, g1 b hb], fun j hj => ?_⟩))
    · rw [zle (by omega) (by omega)] at z; omega
    rw [u2_r]
    by_cases e : j = i
    · subst e; rw [pk_us]
    · rw [pk_un e]; exact g2 j (by omega)
  · rintro _ ct1 ⟨rfl, g1, g2⟩
    refine b103_2 (fun _ => b103_21 (zQ_of ⟨rfl, rfl, ⟨fun b h1 h2 h3 => ?_, fun j h1 h2 => ?_⟩, fun j hj => ?_, ?_⟩)) (fun z => absurd (by decide) z)
    · rw [u2_n h1, u2_n h3, u2_n h3, u2_n h3, u2_n h3]; exact g1 b h3
    · rw [u2_r, pk_un h2, u2_n (by decide), u2_n (by decide), u2_n (by decide), u2_n (by decide), g1 33 (by decide)]
    · rw [u2_n (by decide), u2_r, u2_r, u2_r, u2_r]
      dsimp only
      unfold pd0
      by_cases e3 : j = 3
      · subst e3; rw [pk_us]; rfl
      rw [pk_un e3]
      by_cases e2 : j = 2
      · subst e2; rw [pk_us]; rfl
      rw [pk_un e2]
      by_cases e1 : j = 1
      · subst e1; rw [pk_us]; rfl
      rw [pk_un e1]
      by_cases e0 : j = 0
      · subst e0; rw [pk_us]; rfl
      rw [pk_un e0, if_neg e0, if_neg e1, if_neg (by omega)]
      exact g2 j hj
    · rw [u2_r, pk_us]; rfl
theorem r110 {Q : Option Value → xHp → Prop} (h : TM n t ct) : ∀ k a p ct1 l1, n ≤ a + k → a ≤ 300 → PW p.1 → RS p ct1 → GR ct ct1 → ct1 33 13 = nI a → (∀ ct2, GR ct ct2 → ((prd n t k p a).1 = none → ∀ j, j < 81 → ct2 35 j = (prd n t k p a).2 j) → Q (some (.int (fa (prd n t k p a).1))) (mk (zDm D) ct2)) → RUN X (EV X (d + 4)) 110 Q 9 [.ref 33, l1] [] (mk (zDm D) ct1) := by
  intro k
  induction k with
  | zero =>
    intro a p ct1 l1 hk ha hw hr g1 h13 hq
    have hn := h.2.1
    have h1 := h.gr g1
    have hk : n ≤ a := hk
    exact b110_9 (fun _ => b110_37 (hq ct1 g1 fun _ => hr.1)) (fun z => absurd (by rw [h1.1, h13]; exact (zle (by omega) (by omega)).2 hk) z)
  | succ k ih =>
    intro a p ct1 l1 hk ha hw hr g1 h13 hq
    have hn := h.2.1
    have h1 := h.gr g1
    refine b110_9 (fun z => ?_) (fun z => ?_)
    · rw [h1.1, h13, zle (by omega) (by omega)] at z
      have e : prd n t (k + 1) p a = (none, p.1) := by unfold prd; rw [if_neg (by omega)]
      rw [e] at hq
      exact b110_37 (hq ct1 g1 fun _ => hr.1)
    rw [h1.1, h13, zle (by omega) (by omega)] at z
    obtain ⟨v, D1, ct2, he, hp⟩ := e111 (X := X) (D := D) (d := d) (p := p) hw h1 (a := a) (by omega) h13 hr
    have eD := hp.1
    subst eD
    have g2 : GR ct ct2 := g1.t hp.2.1
    rcases hp.2.2 with ⟨q1, rfl⟩ | ⟨q, e, q1, rfl, q2, q3⟩
    · have q1 : pit n t p a = none := q1
      have e : prd n t (k + 1) p a = (some a, p.1) := by unfold prd; rw [if_pos (by omega), q1]
      rw [e] at hq
      refine b110_20 he ?_
      rw [h13]
      exact b110_29 (fun _ => b110_32 (hq ct2 g2 fun z => by cases z)) (fun z => absurd rfl z)
    · have q1 : pit n t p a = some (q, e) := q1
      have ep : prd n t (k + 1) p a = prd n t k q e := by rw [prd, if_pos (by omega), q1]
      rw [ep] at hq
      have hw2 := pit_w hw q1
      have he3 : e ≤ 300 := by
        unfold pit at q1
        rcases e1 : pns n t 4 (a + 1) with _ | ⟨l, b⟩
        · rw [e1] at q1; cases q1
        · rw [e1] at q1
          dsimp only at q1
          rcases e2 : ptk p (t a) l with _ | q'
          · rw [e2] at q1; cases q1
          · rw [e2] at q1
            cases q1
            have := (pns_le _ _ _ _ e1).2.1
            omega
      exact b110_20 he (b110_29 (fun z => absurd z (by decide)) (fun _ => b110_34 (ih e q ct2 _ (by omega) he3 hw2.1 q2 g2 q3 hq)))
theorem e110 (h : TM n t ct) : CE X (d + 5) 110 [.ref 33] (zDm D) ct (fun v D' ct' => zDm D = D' ∧ GR ct ct' ∧ v = some (.int (fa (prd n t 200 (pd0, true) 0).1)) ∧ ((prd n t 200 (pd0, true) 0).1 = none → ∀ j, j < 81 → ct' 35 j = (prd n t 200 (pd0, true) 0).2 j)) := by
  have hn := h.2.1
  obtain ⟨_, _, ct1, he, rfl, rfl, g1, g2⟩ := e103 (X := X) (D := D) (d := d + 3) (ct := ct)
  refine CE_of (Nat.le_of_ble_eq_true rfl) (b110_0 he (b110_4 ?_))
  exact r110 h 200 0 (pd0, true) _ _ (by omega) (by decide) pd0_w ⟨fun j hj => by rw [u2_n (by decide)]; exact g2.1 j hj, by rw [u2_r, pk_un (by decide)]; exact g2.2⟩ (g1.t ⟨fun b h1 _ _ => u2_n h1, fun j h1 _ => by rw [u2_r, pk_un h1]⟩) (by rw [u2_r, pk_us]) fun ct2 k1 k2 => zQ_of ⟨rfl, k1, rfl, k2⟩
theorem TM_of (h : WF σ) (ha : MA σ ct) : TM (sn σ) (st σ) ct := by
  refine ⟨ha.2.2.2.2.1.1.trans h.2.2.2.2.2.2.1.1, h.np, fun j hj => ?_⟩
  obtain ⟨q, q1, q2, q3⟩ := h.lt j hj
  unfold st
  rw [ha.2.2.2.2.1.2 j hj, q3, nI_clamp (by omega)]
  exact ⟨rfl, q2⟩
theorem GR.row {ct' : zM} (g : GR ct ct') : ∀ b, ¬ mRow b → ct' b = ct b := fun b hb => g.1 b (fun z => hb (by unfold mRow; omega)) (fun z => hb (by unfold mRow; omega)) (fun z => hb (by unfold mRow; omega))
theorem k110 (h : WF σ) (ha : MA σ ct) : CE X (d + 5) 110 [.ref 33] (zDm D) ct (fun v D' ct' => v = some (.int (f39 σ)) ∧ PM σ D ct D' ct') := by
  refine (e110 (TM_of h ha)).mono fun v D' ct' q => ?_
  obtain ⟨q1, q2, q3, -⟩ := q
  exact ⟨q3, ha.gr q2, q2.row, q1⟩
theorem e105 {p : Nat → Int32} (hp : ∀ j, j < 81 → ct 35 j = p j) : CE X (d + 2) 105 [.ref 33] (zDm D) ct (fun v D' ct' => v = none ∧ zDm D = D' ∧ (∀ b, b ≠ 33 → b ≠ 34 → b ≠ 36 → ct' b = ct b) ∧ (∀ j, j ≠ 5 → j ≠ 7 → j ≠ 11 → ct' 33 j = ct 33 j) ∧ (ct' 33 5 = nI 0 ∧ ct' 33 7 = nI 0 ∧ ct' 33 11 = nI 0) ∧ (∀ j, j < 81 → ct' 34 j = p j) ∧ mT ct' 36 (stw p)) := by
  obtain ⟨_, _, ct1, he, rfl, rfl, k1, k2⟩ := e106 (X := X) (D := D) (ct := ct) (d := d) (a0 := 35) (a2 := 34) (n0 := 81) (n2 := 81) (i := 0) (j := 0) (m := 81) rfl rfl (by decide) (by decide) (by decide) (by decide) (by decide)
  have v34 : ∀ j, j < 81 → ct1 34 j = p j := fun j hj => by rw [k2, if_pos (by omega), show 0 + (j - 0) = j by omega]; exact hp j hj
  refine CE_of (Nat.le_of_ble_eq_true rfl) (b105_0 he (b105_15 ?_))
  refine z_loop0 111 (fun i ls ct2 => ls = [.ref 33, .int (nI i)] ∧ (∀ b, b ≠ 36 → ct2 b = ct1 b) ∧ ∀ j, j < i → ct2 36 j = if j < 36 then p (45 + j) else nI 0) ⟨rfl, fun _ _ => rfl, fun j hj => absurd hj (Nat.not_lt_zero _)⟩ ?_ ?_
  · rintro i _ ct2 hi ⟨rfl, g1, g2⟩ ih
    have nx : ∀ v, v = (if i < 36 then p (45 + i) else nI 0) → ∀ j, j < i + 1 → u2 ct2 36 i v 36 j = if j < 36 then p (45 + j) else nI 0 := fun v hv j hj => by
      rw [u2_r]
      by_cases e : j = i
      · subst e; rw [pk_us]; exact hv
      · rw [pk_un e]; exact g2 j (by omega)
    refine b105_17 (fun z => ?_) (fun _ => b105_23 (fun z => ?_) (fun z => ?_))
    · rw [zle (by omega) (by omega)] at z; omega
    · rw [zle (by omega) (by omega)] at z
      exact b105_46 (zix_nI hi (by decide)) (ih _ _ ⟨by rw [nI_add], fun b hb => by rw [u2_n hb, g1 b hb], nx _ (by rw [if_neg (by omega)])⟩)
    · rw [zle (by omega) (by omega)] at z
      refine b105_34 (j42 := 45 + i) ⟨by rw [nI_add], by omega, by decide⟩ (zix_nI hi (by decide)) (ih _ _ ⟨by rw [nI_add], fun b hb => by rw [u2_n hb, g1 b hb], nx _ ?_⟩)
      rw [g1 34 (by decide), v34 _ (by omega), if_pos (by omega)]
  · rintro _ ct2 ⟨rfl, g1, g2⟩
    refine b105_17 (fun _ => b105_54 (zQ_of ⟨rfl, rfl, fun b h1 h2 h3 => ?_, fun j h1 h2 h3 => ?_, ⟨?_, ?_, ?_⟩, fun j hj => ?_, fun j hj => ?_⟩)) (fun z => absurd (by decide) z)
    · rw [u2_n h1, u2_n h1, u2_n h1, u2_n h3, u2_n h3, g1 b h3, k1 b h2]
    · rw [u2_r, pk_un h3, u2_r, pk_un h2, u2_r, pk_un h1, u2_n (by decide), u2_n (by decide), g1 33 (by decide), k1 33 (by decide)]
    · rw [u2_r, pk_un (by decide), u2_r, pk_un (by decide), u2_r, pk_us]
    · rw [u2_r, pk_un (by decide), u2_r, pk_us]
    · rw [u2_r, pk_us]
    · rw [u2_n (by decide), u2_n (by decide), u2_n (by decide), u2_n (by decide), u2_n (by decide), g1 34 (by decide)]; exact v34 j hj
    · rw [u2_n (by decide), u2_n (by decide), u2_n (by decide), u2_r, u2_r, g1 34 (by decide), v34 7 (by decide), v34 8 (by decide)]
      unfold stw
      by_cases e1 : j = 109
      · subst e1; rw [pk_us, if_neg (by decide), if_neg (by decide), if_pos rfl]
      rw [pk_un e1]
      by_cases e2 : j = 108
      · subst e2; rw [pk_us, if_neg (by decide), if_pos rfl]
      rw [pk_un e2, g2 j hj, if_neg e2, if_neg e1]
theorem MA_lay {p : Nat → Int32} {ct' : zM} (h : ∀ j, j < 81 → ct' 34 j = p j) (hm : mT ct' 36 (stw p)) (h0 : ct' 33 5 = nI 0 ∧ ct' 33 7 = nI 0 ∧ ct' 33 11 = nI 0) (ht : ct' 33 9 = σ 0 6 ∧ ∀ j, j < sn σ → ct' 40 j = σ 4 j) : MA (sLay σ p) ct' := by
  have eu : su (sLay σ p) = 0 := nI_clamp (by decide)
  have ek : sk (sLay σ p) = 0 := nI_clamp (by decide)
  have ef : sf (sLay σ p) = 0 := nI_clamp (by decide)
  refine ⟨⟨h 0 (by decide), h 1 (by decide), h 2 (by decide), fun j hj => h _ (by omega), fun j hj => h _ (by omega)⟩, hm, ⟨h0.1, fun i hi => ?_⟩, ⟨h0.2.1, fun i hi => ?_⟩, ht, h0.2.2, fun j hj => ?_⟩
  · rw [eu] at hi; omega
  · rw [ek] at hi; omega
  · rw [ef] at hj; omega
theorem k121 (h : WF σ) (ha : MA σ ct) : CE X (d + 6) 121 [.ref 33] (zDm D) ct (fun v D' ct' => v = some (.int (g40 σ).1) ∧ PM (g40 σ).2 D ct D' ct') := by
  have hT := TM_of h ha
  have hn := hT.2.1
  have hpw : PW (prd (sn σ) (st σ) 200 (pd0, true) 0).2 := prd_w _ _ _ pd0_w
  obtain ⟨_, _, ct1, he, rfl, g1, rfl, k2⟩ := e110 (X := X) (D := D) (d := d) hT
  have ma1 := ha.gr g1
  have no : LY (sn σ) (st σ) = none → some (Value.int (-2)) = some (.int (g40 σ).1) ∧ PM (g40 σ).2 D ct (zDm D) ct1 := fun e => by
    unfold g40; rw [e]; exact ⟨rfl, ma1, g1.row, rfl⟩
  refine CE_of (Nat.le_of_ble_eq_true rfl) (b121_0 he ?_)
  rcases e1 : (prd (sn σ) (st σ) 200 (pd0, true) 0).1 with _ | x
  · rw [e1] at k2
    have k2 := k2 rfl
    refine b121_4 (fun _ => b121_9 (fun z => b121_39 (zQ_of (no ?_))) (fun z => ?_)) (fun z => absurd rfl z)
    · rw [g1.2 9 (by decide) (by decide), hT.1, zeq (b := 0) (by omega) (by omega)] at z
      unfold LY; rw [if_pos z]
    rw [g1.2 9 (by decide) (by decide), hT.1, zeq (b := 0) (by omega) (by omega)] at z
    generalize hpp : (prd (sn σ) (st σ) 200 (pd0, true) 0).2 = p at hpw k2
    obtain ⟨r, m, hr0, hm0, hr2, hm2, erc⟩ := hpw.V
    have hrc := prc_le hpw
    obtain ⟨-, -, -, -, ⟨e, e99, he8⟩, -⟩ := id hpw
    have c8 : (p 8).toNatClampNeg = e := by rw [he8, nI_clamp (by omega)]
    have v8 : ct1 35 8 = nI e := (k2 8 (by decide)).trans he8
    have v01 : ct1 35 0 * ct1 35 1 = nI (prc p) := by rw [k2 0 (by decide), k2 1 (by decide), hr0, hm0, pk_mul, erc]
    refine b121_16 (fun z2 => ?_) (fun z2 => b121_39 (zQ_of (no ?_)))
    · rw [v8, v01, zlt (by omega) (by omega)] at z2
      have eL : LY (sn σ) (st σ) = some p := by
        unfold LY; rw [if_neg z, e1]; dsimp only; rw [hpp, if_neg (by omega)]
      obtain ⟨_, _, ct2, he2, rfl, rfl, q1, q2, q3, q4, q5⟩ := e105 (X := X) (D := D) (d := d + 3) k2
      have ma2 : MA (sLay σ p) ct2 := MA_lay q4 q5 q3 ⟨by rw [q2 9 (by decide) (by decide) (by decide)]; exact ma1.2.2.2.2.1.1, by rw [q1 40 (by decide) (by decide) (by decide)]; exact ma1.2.2.2.2.1.2⟩
      have wl : WF (sLay σ p) := by have := WF_40 h; unfold g40 at this; rw [eL] at this; exact this
      refine b121_42 he2 (b121_46 (e122 wl ma2.mp) (b121_50 (zQ_of ?_)))
      have e2 : g40 σ = (nI (prc p), sLay σ p) := by unfold g40; rw [eL]
      rw [e2]
      have ec : sr (sLay σ p) * sc (sLay σ p) = prc p := rfl
      exact ⟨by rw [ec], ma2, fun b hb => by rw [q1 b (fun z => hb (by unfold mRow; omega)) (fun z => hb (by unfold mRow; omega)) (fun z => hb (by unfold mRow; omega)), g1.row b hb], rfl⟩
    · rw [v8, v01, zlt (by omega) (by omega)] at z2
      unfold LY; rw [if_neg z, e1]; dsimp only; rw [hpp, if_pos (by omega)]
  · refine b121_4 (fun z => absurd z ?_) (fun _ => b121_39 (zQ_of (no ?_)))
    · have := prd_le _ _ _ _ e1
      exact fun w => nI_ne4 (j := x) (by omega) w.symm
    · unfold LY
      rw [e1]
      split <;> rfl
end
