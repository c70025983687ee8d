/-! The reference reads its text. -/
def tk (n : Nat) (t : Nat → Nat) : Nat → Nat → Option (List Nat × Nat)
  | 0, a => some ([], a)
  | r + 1, a => match pnu n t a with
    | none => none
    | some (v, b) => if plt n t b = (if r = 0 then 59 else 44) then (match tk n t r (b + 1) with
      | none => none
      | some (l, e) => some (v :: l, e)) else none
theorem tk_len {n : Nat} {t : Nat → Nat} : ∀ r a l e, tk n t r a = some (l, e) → l.length = r
  | 0, a, l, e, h => by cases h; rfl
  | r + 1, a, l, e, h => by
    rw [tk] at h
    rcases e1 : pnu n t a with _ | ⟨v, b⟩
    · rw [e1] at h; cases h
    rw [e1] at h
    dsimp only at h
    by_cases q : plt n t b = (if r = 0 then 59 else 44)
    · rw [if_pos q] at h
      rcases e2 : tk n t r (b + 1) with _ | ⟨l2, b2⟩
      · rw [e2] at h; cases h
      · rw [e2] at h
        cases h
        exact congrArg (· + 1) (tk_len r _ _ _ e2)
    · rw [if_neg q] at h; cases h
/-- of the numbers that the class reads, those that are so many -/
theorem tk_pns {n : Nat} {t : Nat → Nat} : ∀ r k a, r + 1 ≤ k → tk n t (r + 1) a = (match pns n t k a with
    | some (l, e) => if l.length = r + 1 then some (l, e) else none
    | none => none)
  | r, 0, a, h => by omega
  | r, k + 1, a, h => by
    rw [tk, pns]
    rcases e : pnu n t a with _ | ⟨v, b⟩
    · rfl
    dsimp only
    by_cases h59 : plt n t b = 59
    · rw [if_pos h59]
      dsimp only
      by_cases hr : r = 0
      · subst hr
        rw [if_pos rfl, if_pos h59]
        rfl
      · rw [if_neg hr, if_neg (by omega)]
        rw [if_neg (by show ¬ 1 = r + 1; omega)]
    · rw [if_neg h59]
      by_cases h44 : plt n t b = 44
      · rw [if_pos h44]
        match r, h with
        | 0, h =>
          rw [if_pos rfl, if_neg h59]
          rcases e2 : pns n t k (b + 1) with _ | ⟨l, e3⟩
          · rfl
          · have := (pns_le _ _ _ _ e2).2.2.1
            dsimp only
            rw [if_neg (by rw [List.length_cons]; omega)]
        | r + 1, h =>
          rw [if_neg (Nat.succ_ne_zero r), if_pos h44, tk_pns r k (b + 1) (by omega)]
          rcases e2 : pns n t k (b + 1) with _ | ⟨l, e3⟩
          · rfl
          · dsimp only
            by_cases hl : l.length = r + 1
            · rw [if_pos hl]
              dsimp only
              rw [if_pos (by rw [List.length_cons, hl])]
            · rw [if_neg hl]
              dsimp only
              rw [if_neg (by rw [List.length_cons]; omega)]
      · rw [if_neg h44]
        dsimp only
        rw [if_neg]
        split
        · exact h59
        · exact h44
/-- the reference's text -/
def TM (n : Nat) (t : Nat → Nat) (ct : zM) : Prop := ct 33 9 = nI n ∧ n ≤ 200 ∧ ∀ j, j < n → ct 40 j = nI (t j) ∧ t j ≤ 126
/-- only the place and the numbers -/
def GN (ct ct' : zM) : Prop := (∀ b, b ≠ 33 → b ≠ 42 → ct' b = ct b) ∧ ∀ j, j ≠ 13 → ct' 33 j = ct 33 j
/-- what reading changes at most -/
def GR (ct ct' : zM) : Prop := (∀ b, b ≠ 33 → b ≠ 42 → b ≠ 35 → ct' b = ct b) ∧ ∀ j, j ≠ 13 → j ≠ 12 → ct' 33 j = ct 33 j
theorem GN.r (ct : zM) : GN ct ct := ⟨fun _ _ _ => rfl, fun _ _ => rfl⟩
theorem GR.r (ct : zM) : GR ct ct := ⟨fun _ _ _ _ => rfl, fun _ _ _ => rfl⟩
theorem GN.gr {ct ct' : zM} (h : GN ct ct') : GR ct ct' := ⟨fun b h1 h2 _ => h.1 b h1 h2, fun j h1 _ => h.2 j h1⟩
theorem GR.t {ct ct' ct'' : zM} (h : GR ct ct') (k : GR ct' ct'') : GR ct ct'' := ⟨fun b h1 h2 h3 => (k.1 b h1 h2 h3).trans (h.1 b h1 h2 h3), fun j h1 h2 => (k.2 j h1 h2).trans (h.2 j h1 h2)⟩
theorem TM.gr {n : Nat} {t : Nat → Nat} {ct ct' : zM} (h : TM n t ct) (k : GR ct ct') : TM n t ct' := ⟨(k.2 9 (by decide) (by decide)).trans h.1, h.2.1, fun j hj => by rw [k.1 40 (by decide) (by decide) (by decide)]; exact h.2.2 j hj⟩
theorem MA.gr {σ ct ct' : zM} (h : MA σ ct) (k : GR ct ct') : MA σ ct' := by
  unfold MA at *
  rw [k.1 34 (by decide) (by decide) (by decide), k.1 36 (by decide) (by decide) (by decide), k.1 38 (by decide) (by decide) (by decide), k.1 39 (by decide) (by decide) (by decide), k.1 40 (by decide) (by decide) (by decide), k.1 41 (by decide) (by decide) (by decide), k.2 5 (by decide) (by decide), k.2 7 (by decide) (by decide), k.2 9 (by decide) (by decide), k.2 11 (by decide) (by decide)]
  exact h
def hv (n : Nat) (t : Nat → Nat) (a : Nat) : Int32 := if a < n then nI (t a) else (-1)
def NM (ct : zM) (l : List Nat) : Prop := ∀ j, j < l.length → ct 42 j = nI (l.getD j 0)
section
variable {X : Nat × (Nat → Int32)} {D : zD} {ct : zM} {d n a m : Nat} {t : Nat → Nat}
theorem e112 (h : TM n t ct) (ha : ct 33 13 = nI a) (h3 : a < 1000) : EV X (d + 1) 112 [.ref 33] (mk (zDm D) ct) (some (.int (hv n t a))) (mk (zDm D) ct) := by
  have hn := h.2.1
  unfold hv
  refine EV_intro (Nat.le_of_ble_eq_true rfl) (b112_0 (fun z => b112_23 ⟨?_, rfl⟩) (fun z => ?_))
  · rw [h.1, ha, zle (by omega) (by omega)] at z; rw [if_neg (by omega)]
  · rw [h.1, ha, zle (by omega) (by omega)] at z
    refine b112_11 (j19 := a) ⟨ha, by omega, by decide⟩ ⟨?_, rfl⟩
    rw [if_pos (by omega), (h.2.2 a (by omega)).1]
theorem hv_fig (h : TM n t ct) : (nI 48 ≤ hv n t a ∧ hv n t a ≤ nI 57) ↔ pfg (plt n t a) = true := by
  unfold hv plt pfg
  rw [decide_eq_true_eq]
  by_cases q : a < n
  · have := (h.2.2 a q).2
    rw [if_pos q, if_pos q, zle (by omega) (by omega), zle (by omega) (by omega)]
  · rw [if_neg q, if_neg q]
    exact ⟨fun z => absurd z.1 (by decide), fun z => by omega⟩
theorem hv_eq (h : TM n t ct) {c : Nat} (hc : 0 < c ∧ c < 1000) : hv n t a = nI c ↔ plt n t a = c := by
  unfold hv plt
  by_cases q : a < n
  · have := (h.2.2 a q).2
    rw [if_pos q, if_pos q, zeq (by omega) (by omega)]
  · rw [if_neg q, if_neg q]
    refine ⟨fun z => ?_, fun z => by omega⟩
    have h2 := congrArg Int32.toInt z
    rw [nI_toInt (by omega)] at h2
    have : (-1 : Int32).toInt = -1 := by decide
    omega
/-- more figures than two: no number -/
theorem r114_more {Q : Option Value → xHp → Prop} {k x3 : Int32} (h : TM n t ct) : ∀ j a f ct1, a + j = 300 → f + j ≤ 400 → 3 ≤ f → GN ct ct1 → ct1 33 13 = nI a → (∀ ct2, GN ct ct2 → Q (some (.int (nI 0))) (mk (zDm D) ct2)) → RUN X (EV X (d + 1)) 114 Q 12 [.ref 33, .int (nI m), .int k, .int x3, .int (nI f)] [] (mk (zDm D) ct1) := by
  intro j
  induction j with
  | zero =>
    intro a f ct1 hj hf h3 g1 g2 hq
    have h1 := h.gr g1.gr
    have hn := h.2.1
    refine b114_12 (e112 h1 g2 (by omega)) (b114_16 (e108n (by decide) (by decide)) (b114_26 (fun z => ?_) (fun z => ?_)))
    · refine b114_68 (by rw [nI_l (by omega), lN_i64 (by omega)]; exact e108n (by decide) (by decide)) (b114_78 (fun _ => b114_102 (hq ct1 g1)) (fun z2 => ?_))
      rw [yn_0, Classical.not_not, zle (by omega) (by omega), zle (by omega) (by omega)] at z2
      omega
    · rw [yn_0, Classical.not_not, hv_fig h1] at z
      unfold plt at z
      have ha : ¬ a < n := by have : (a : Nat) + 0 = 300 := hj; omega
      rw [if_neg ha] at z
      exact absurd z (by decide)
  | succ j ih =>
    intro a f ct1 hj hf h3 g1 g2 hq
    have h1 := h.gr g1.gr
    refine b114_12 (e112 h1 g2 (by omega)) (b114_16 (e108n (by decide) (by decide)) (b114_26 (fun z => ?_) (fun z => ?_)))
    · refine b114_68 (by rw [nI_l (by omega), lN_i64 (by omega)]; exact e108n (by decide) (by decide)) (b114_78 (fun _ => b114_102 (hq ct1 g1)) (fun z2 => ?_))
      rw [yn_0, Classical.not_not, zle (by omega) (by omega), zle (by omega) (by omega)] at z2
      omega
    · refine b114_29 (fun _ => b114_50 ?_) (fun z2 => absurd ((zle (by omega) (by omega)).2 (by omega)) z2)
      rw [nI_add]
      exact ih (a + 1) (f + 1) _ (by omega) (by omega) (by omega) ⟨fun b q1 q2 => by rw [u2_n q1, g1.1 b q1 q2], fun i q1 => by rw [u2_r, pk_un q1, g1.2 i q1]⟩ (by rw [u2_r, pk_us, g2, nI_add]) hq
theorem hv44 (h : TM n t ct) : hv n t a = nI 44 ↔ plt n t a = 44 := hv_eq h (by decide)
/-- a number of one or two figures, or none -/
theorem r114_num {Q : Option Value → xHp → Prop} {k : Nat} (h : TM n t ct) (hm : m ≤ 4) (hk : k < m) (ha : a ≤ 250) {ct1 : zM} (g1 : GN ct ct1) (g2 : ct1 33 13 = nI a)
    (q1 : ∀ v b ct2 x4, pnu n t a = some (v, b) → plt n t b = (if m - k - 1 = 0 then 59 else 44) → GN ct ct2 → ct2 33 13 = nI b → ct2 42 = ct1 42 → RUN X (EV X (d + 1)) 114 Q 104 [.ref 33, .int (nI m), .int (nI k), .int (nI v), .int x4] [] (mk (zDm D) ct2))
    (qn : (pnu n t a = none ∨ ∃ v b, pnu n t a = some (v, b) ∧ plt n t b ≠ (if m - k - 1 = 0 then 59 else 44)) → ∀ ct2, GN ct ct2 → Q (some (.int (nI 0))) (mk (zDm D) ct2)) :
    RUN X (EV X (d + 1)) 114 Q 12 [.ref 33, .int (nI m), .int (nI k), .int (nI 0), .int (nI 0)] [] (mk (zDm D) ct1) := by
  have hn := h.2.1
  -- what comes when the figures are over
  have over : ∀ b v f ct2, b ≤ 300 → GN ct ct2 → ct2 33 13 = nI b → ct2 42 = ct1 42 → pnu n t a = some (v, b) → f = 1 ∨ f = 2 → RUN X (EV X (d + 1)) 114 Q 68 [.ref 33, .int (nI m), .int (nI k), .int (nI v), .int (nI f)] [] (mk (zDm D) ct2) := by
    intro b v f ct2 hb k1 k2 k3 hp hf
    have h2 := h.gr k1.gr
    refine b114_68 (by rw [nI_l (by omega), lN_i64 (by omega)]; exact e108n (by decide) (by decide)) (b114_78 (fun z => ?_) (fun _ => ?_))
    · rw [yn_0, zle (by omega) (by omega), zle (by omega) (by omega)] at z; omega
    refine b114_81 (e112 h2 k2 (by omega)) ?_
    refine b114_85 (fun z => ?_) (fun z => ?_)
    · rw [pk_sub (by omega), zle (by omega) (by omega)] at z
      have e : (if m - k - 1 = 0 then 59 else 44) = 59 := if_pos (by omega)
      rw [e] at q1 qn
      exact b114_97 (fun y => q1 v b ct2 _ hp ((hv_eq h2 (by decide)).1 y) k1 k2 k3) (fun y => b114_102 (qn (Or.inr ⟨v, b, hp, fun w => y ((hv_eq h2 (by decide)).2 w)⟩) ct2 k1))
    · rw [pk_sub (by omega), zle (by omega) (by omega)] at z
      have e : (if m - k - 1 = 0 then 59 else 44) = 44 := if_neg (by omega)
      rw [e] at q1 qn
      exact b114_92 (fun y => q1 v b ct2 _ hp ((hv_eq h2 (by decide)).1 y) k1 k2 k3) (fun y => b114_102 (qn (Or.inr ⟨v, b, hp, fun w => y ((hv_eq h2 (by decide)).2 w)⟩) ct2 k1))
  have step : ∀ {b : Nat} {ct2 : zM}, GN ct ct2 → ct2 33 13 = nI b → ct2 42 = ct1 42 → GN ct (u2 ct2 33 13 (ct2 33 13 + nI 1)) ∧ (u2 ct2 33 13 (ct2 33 13 + nI 1)) 33 13 = nI (b + 1) ∧ (u2 ct2 33 13 (ct2 33 13 + nI 1)) 42 = ct1 42 := fun {b ct2} k1 k2 k3 =>
    ⟨⟨fun c z1 z2 => by rw [u2_n z1, k1.1 c z1 z2], fun i z1 => by rw [u2_r, pk_un z1, k1.2 i z1]⟩, by rw [u2_r, pk_us, k2, nI_add], by rw [u2_n (by decide)]; exact k3⟩
  have h1 := h.gr g1.gr
  refine b114_12 (e112 h1 g2 (by omega)) (b114_16 (e108n (by decide) (by decide)) (b114_26 (fun z => ?_) (fun z => ?_)))
  · -- no figure
    rw [yn_0, hv_fig h1] at z
    have hp : pnu n t a = none := by unfold pnu; rw [if_neg z]
    refine b114_68 (by rw [show ((nI 0 : Int32)).toInt64 = lN 0 from nI_l (by decide), lN_i64 (by decide)]; exact e108n (by decide) (by decide)) (b114_78 (fun _ => b114_102 (qn (Or.inl hp) ct1 g1)) (fun z2 => ?_))
    rw [yn_0, Classical.not_not] at z2
    exact absurd z2.1 (by decide)
  rw [yn_0, Classical.not_not, hv_fig h1] at z
  have l1 := pfg_l z
  have a1 : a < n := by
    apply Classical.byContradiction; intro y
    unfold plt at l1; rw [if_neg y] at l1; omega
  have v1 : hv n t a = nI (plt n t a) := by unfold hv plt; rw [if_pos a1, if_pos a1]
  refine b114_29 (fun z2 => absurd z2 (by decide)) (fun _ => b114_35 (e112 h1 g2 (by omega)) (b114_43 ?_))
  obtain ⟨s1, s2, s3⟩ := step g1 g2 rfl
  have e1 : nI 10 * nI 0 + hv n t a - nI 48 = nI (plt n t a - 48) := by
    rw [v1, pk_mul, nI_add, Nat.mul_zero, Nat.zero_add, pk_sub l1.1]
  rw [e1]
  have h2 := h.gr s1.gr
  refine b114_12 (e112 h2 s2 (by omega)) (b114_16 (e108n (by decide) (by decide)) (b114_26 (fun y => ?_) (fun y => ?_)))
  · rw [yn_0, hv_fig h2] at y
    have hp : pnu n t a = some (plt n t a - 48, a + 1) := by unfold pnu; rw [if_pos z, if_neg y]
    exact over (a + 1) _ 1 _ (by omega) s1 s2 s3 hp (Or.inl rfl)
  rw [yn_0, Classical.not_not, hv_fig h2] at y
  have l2 := pfg_l y
  have a2 : a + 1 < n := by
    apply Classical.byContradiction; intro y
    unfold plt at l2; rw [if_neg y] at l2; omega
  have v2 : hv n t (a + 1) = nI (plt n t (a + 1)) := by unfold hv plt; rw [if_pos a2, if_pos a2]
  refine b114_29 (fun z2 => absurd z2 (by decide)) (fun _ => b114_35 (e112 h2 s2 (by omega)) (b114_43 ?_))
  obtain ⟨s4, s5, s6⟩ := step s1 s2 s3
  have e2 : nI 10 * nI (plt n t a - 48) + hv n t (a + 1) - nI 48 = nI (10 * (plt n t a - 48) + (plt n t (a + 1) - 48)) := by
    rw [v2, pk_mul, nI_add, pk_sub (by omega)]
    congr 1; omega
  rw [e2]
  have hp : pnu n t a = some (10 * (plt n t a - 48) + (plt n t (a + 1) - 48), a + 2) := by unfold pnu; rw [if_pos z, if_pos y]
  have h3 := h.gr s4.gr
  refine b114_12 (e112 h3 s5 (by omega)) (b114_16 (e108n (by decide) (by decide)) (b114_26 (fun w => ?_) (fun w => ?_)))
  · exact over (a + 2) _ 2 _ (by omega) s4 s5 s6 hp (Or.inr rfl)
  rw [yn_0, Classical.not_not, hv_fig h3] at w
  have l3 := pfg_l w
  refine b114_29 (fun _ => b114_50 ?_) (fun z2 => absurd (by decide) z2)
  obtain ⟨s7, s8, s9⟩ := step s4 s5 s6
  have bad : plt n t (a + 2) ≠ (if m - k - 1 = 0 then 59 else 44) := by
    have l3 : 48 ≤ plt n t (a + 2) ∧ plt n t (a + 2) ≤ 57 := l3
    split <;> omega
  exact r114_more h (300 - (a + 1 + 1 + 1)) (a + 1 + 1 + 1) 3 _ (by omega) (by omega) (by omega) s7 s8 fun ct2 y1 => qn (Or.inr ⟨_, _, hp, bad⟩) ct2 y1
end
