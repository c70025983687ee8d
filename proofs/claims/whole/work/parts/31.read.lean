/-! The class reads its text. -/
def TX (n : Nat) (t : Nat → Nat) (ct : zM) : Prop := ct 1 1 = nI n ∧ n ≤ 200 ∧ ∀ j, j < n → ct 2 j = nI (t j) ∧ t j ≤ 126
/-- what reading changes at most -/
def FR (ct ct' : zM) : Prop := (∀ b, ¬ (3 ≤ b ∧ b ≤ 10) → b ≠ 1 → ct' b = ct b) ∧ ∀ j, j ≠ 5 → j ≠ 6 → ct' 1 j = ct 1 j
theorem FR.r (ct : zM) : FR ct ct := ⟨fun _ _ _ => rfl, fun _ _ _ => rfl⟩
theorem FR.t {ct ct' ct'' : zM} (h : FR ct ct') (k : FR ct' ct'') : FR ct ct'' := ⟨fun b h1 h2 => (k.1 b h1 h2).trans (h.1 b h1 h2), fun j h1 h2 => (k.2 j h1 h2).trans (h.2 j h1 h2)⟩
theorem TX.fr {n : Nat} {t : Nat → Nat} {ct ct' : zM} (h : TX n t ct) (k : FR ct ct') : TX n t ct' := ⟨(k.2 1 (by decide) (by decide)).trans h.1, h.2.1, fun j hj => by rw [k.1 2 (by decide) (by decide)]; exact h.2.2 j hj⟩
/-- only the numbers' row, and how many -/
def FN (ct ct' : zM) : Prop := (∀ b, b ≠ 10 → b ≠ 1 → ct' b = ct b) ∧ ∀ j, j ≠ 5 → ct' 1 j = ct 1 j
theorem FN.r (ct : zM) : FN ct ct := ⟨fun _ _ _ => rfl, fun _ _ => rfl⟩
theorem FN.fr {ct ct' : zM} (h : FN ct ct') : FR ct ct' := ⟨fun b h1 h2 => h.1 b (by omega) h2, fun j h1 _ => h.2 j h1⟩
theorem plt_le {n a : Nat} {t : Nat → Nat} {ct : zM} (h : TX n t ct) : plt n t a ≤ 126 := by
  unfold plt
  split
  · next q => exact (h.2.2 a q).2
  · omega
/-- the numbers read -/
def NB (ct : zM) (l : List Nat) : Prop := ct 1 5 = nI l.length ∧ ∀ j, j < l.length → ct 10 j = nI (l.getD j 0)
section
variable {X : Nat × (Nat → Int32)} {D : zD} {ct : zM} {d n a : Nat} {t : Nat → Nat}
theorem e25 (h : TX n t ct) (ha : a < 1000) : EV X (d + 1) 25 [.ref 1, .int (nI a)] (mk D ct) (some (.int (nI (plt n t a)))) (mk D ct) := by
  have hn := h.2.1
  refine EV_intro (Nat.le_of_ble_eq_true rfl) ?_
  refine b25_0 (fun z => absurd z (nI_nlt (by omega) (by omega))) (fun _ => b25_4 (fun z => ?_) (fun z => b25_12 (fun z2 => ?_) (fun _ => ?_)))
  · rw [h.1, zle (by omega) (by omega)] at z
    refine b25_28 ⟨?_, rfl⟩
    unfold plt
    rw [if_neg (by omega)]
  · rw [h.1, zle (by omega) (by omega)] at z
    rw [zle (by omega) (by omega)] at z2
    omega
  · rw [h.1, zle (by omega) (by omega)] at z
    refine b25_19 (j24 := a) (zix_nI (by omega) (by decide)) ⟨?_, rfl⟩
    unfold plt
    rw [if_pos (by omega), (h.2.2 a (by omega)).1]
theorem e26 {c : Nat} (hc : c ≤ 126) : EV X (d + 1) 26 [.int (nI c)] (mk D ct) (some (.int (if pfg c = true then nI 1 else nI 0))) (mk D ct) := by
  refine EV_intro (Nat.le_of_ble_eq_true rfl) ?_
  unfold pfg
  refine b26_0 (fun z => b26_16 ⟨?_, rfl⟩) (fun z => b26_6 (fun z2 => b26_16 ⟨?_, rfl⟩) (fun z2 => b26_12 ⟨?_, rfl⟩))
  · rw [zlt (by omega) (by omega)] at z
    rw [if_neg]
    rw [decide_eq_true_eq]; omega
  · rw [zlt (by omega) (by omega)] at z2
    rw [if_neg]
    rw [decide_eq_true_eq]; omega
  · rw [zlt (by omega) (by omega)] at z z2
    rw [if_pos]
    rw [decide_eq_true_eq]; omega
theorem getD_app {l : List Nat} {v j : Nat} (hj : j < l.length + 1) : (l ++ [v]).getD j 0 = if j < l.length then l.getD j 0 else v := by
  by_cases h : j < l.length
  · rw [if_pos h, List.getD_eq_getElem?_getD, List.getD_eq_getElem?_getD, List.getElem?_append_left h]
  · rw [if_neg h, List.getD_eq_getElem?_getD, List.getElem?_append_right (by omega), show j - l.length = 0 by omega]; rfl
/-- numbers from there on -/
theorem r24 {Q : Option Value → xHp → Prop} {x1 : Int32} (h : TX n t ct) :
    ∀ k i a (pre : List Nat) ct1, i + k = 4 → pre.length = i → a + 3 * k ≤ 300 → FN ct ct1 → (∀ j, j < i → ct1 10 j = nI (pre.getD j 0)) →
    (pns n t k a = none → ∀ ct2, FN ct ct2 → Q (some (.int (-4))) (mk D ct2)) →
    (∀ l e, pns n t k a = some (l, e) → ∀ ct2, FN ct ct2 → NB ct2 (pre ++ l) → Q (some (.int (nI e))) (mk D ct2)) →
    ∀ l4 l5, xnl (some l4) → xnl (some l5) → RUN X (EV X (d + 1)) 24 Q 4 [.ref 1, .int x1, .int (nI a), .int (nI i), l4, l5] [] (mk D ct1)
  | 0, i, a, pre, ct1, hi, hp, ha, hf, hm, q0, q1, l4, l5, _, _ => by
    refine b24_4 (fun _ => b24_116 (q0 rfl _ hf)) (fun z => ?_)
    rw [zle (by omega) (by omega)] at z; omega
  | k + 1, i, a, pre, ct1, hi, hp, ha, hf, hm, q0, q1, l4, l5, n4, n5 => by
    have ht1 := h.fr hf.fr
    refine b24_4 (fun z => ?_) (fun _ => ?_)
    · rw [zle (by omega) (by omega)] at z; omega
    have l1 := plt_le (a := a) ht1
    have l2 := plt_le (a := a + 1) ht1
    refine b24_9 (e25 ht1 (by omega)) (b24_14 (e26 l1) (b24_17 (fun z => ?_) (fun z => ?_)))
    · have hz : ¬ pfg (plt n t a) = true := fun w => by rw [if_pos w] at z; exact absurd z (by decide)
      refine b24_20 (q0 ?_ _ hf)
      unfold pns pnu
      rw [if_neg hz]
    have hz : pfg (plt n t a) = true := by
      by_cases w : pfg (plt n t a) = true
      · exact w
      · rw [if_neg w] at z; exact absurd rfl z
    have lz := pfg_l hz
    have step : ∀ (v b : Nat) (x4 : Int32), pnu n t a = some (v, b) → v ≤ 99 → b ≤ a + 2 → RUN X (EV X (d + 1)) 24 Q 86 [.ref 1, .int x1, .int (nI b), .int (nI i), .int x4, l5] [.int (nI (plt n t b))] (mk D (u2 (u2 ct1 10 i (nI v)) 1 5 (nI i + nI 1))) := by
      intro v b x4 hv v99 hb
      have fn : FN ct (u2 (u2 ct1 10 i (nI v)) 1 5 (nI i + nI 1)) := by
        refine ⟨fun b z1 z2 => by rw [u2_n z2, u2_n z1]; exact hf.1 b z1 z2, fun j hj => ?_⟩
        rw [u2_a, if_neg (fun z => hj z.2), u2_n (by omega)]
        exact hf.2 j hj
      have l3 := plt_le (a := b) ht1
      have nb : ∀ j, j < i + 1 → (u2 (u2 ct1 10 i (nI v)) 1 5 (nI i + nI 1)) 10 j = nI ((pre ++ [v]).getD j 0) := by
        intro j hj
        rw [u2_n (by omega), u2_a, getD_app (by omega)]
        by_cases e : j = i
        · rw [if_pos ⟨rfl, e⟩, if_neg (by omega)]
        · rw [if_neg (fun z => e z.2), if_pos (by omega)]; exact hm j (by omega)
      refine b24_86 (fun z => b24_98 ?_) (fun z => b24_100 (fun z2 => b24_110 ?_) (fun z2 => b24_107 ?_))
      · rw [zeq (by omega) (by omega)] at z
        rw [nI_add]
        refine q1 [v] (b + 1) ?_ _ fn ⟨?_, fun j hj => nb j (by rw [List.length_append, hp] at hj; exact hj)⟩
        · unfold pns; rw [hv]; dsimp only; rw [if_pos z]
        · rw [u2_a, if_pos ⟨rfl, rfl⟩, nI_add, List.length_append, hp]; rfl
      · rw [zeq (by omega) (by omega)] at z z2
        rw [nI_add, nI_add]
        refine r24 h k (i + 1) (b + 1) (pre ++ [v]) _ (by omega) (by rw [List.length_append, hp]; rfl) (by omega) (by rw [nI_add] at fn; exact fn) (by rw [nI_add] at nb; exact nb) (fun e => q0 ?_) (fun l e e2 ct2 g1 g2 => q1 (v :: l) e ?_ ct2 g1 ?_) _ _ trivial trivial
        · unfold pns; rw [hv]; dsimp only; rw [if_neg z, if_pos z2, e]
        · unfold pns; rw [hv]; dsimp only; rw [if_neg z, if_pos z2, e2]
        · rw [List.append_assoc] at g2; exact g2
      · rw [zeq (by omega) (by omega)] at z z2
        refine q0 ?_ _ fn
        unfold pns; rw [hv]; dsimp only; rw [if_neg z, if_neg z2]
    refine b24_23 (e25 ht1 (by omega)) (b24_28 (ct1 := ct1) (D1 := D) (v1 := nI (plt n t (a + 1))) ?_ (b24_41 (e26 l2) (b24_44 (fun z2 => ?_) (fun z2 => ?_))))
    · rw [nI_add]; exact e25 ht1 (by omega)
    · have hz2 : ¬ pfg (plt n t (a + 1)) = true := fun w => by rw [if_pos w] at z2; exact absurd z2 (by decide)
      have hv : pnu n t a = some (plt n t a - 48, a + 1) := by unfold pnu; rw [if_pos hz, if_neg hz2]
      refine b24_66 (j73 := i) (zix_nI (by omega) (by decide)) (ct1 := u2 (u2 ct1 10 i (nI (plt n t a - 48))) 1 5 (nI i + nI 1)) (D1 := D) (v1 := nI (plt n t (a + 1))) ?_ ?_
      · rw [nI_add, pk_sub (by omega)]
        refine e25 (ht1.fr ⟨fun b z1 z2 => by rw [u2_n z2, u2_n (by omega)], fun j z1 z2 => by rw [u2_a, if_neg (fun z => z1 z.2), u2_n (by omega)]⟩) (by omega)
      · have := step _ _ (nI (plt n t a) - nI 48) hv (by omega) (by omega)
        rw [nI_add]; exact this
    · have hz2 : pfg (plt n t (a + 1)) = true := by
        by_cases w : pfg (plt n t (a + 1)) = true
        · exact w
        · rw [if_neg w] at z2; exact absurd rfl z2
      have lz2 := pfg_l hz2
      have hv : pnu n t a = some (10 * (plt n t a - 48) + (plt n t (a + 1) - 48), a + 2) := by unfold pnu; rw [if_pos hz, if_pos hz2]
      have en : nI 10 * (nI (plt n t a) - nI 48) + nI (plt n t (a + 1)) - nI 48 = nI (10 * (plt n t a - 48) + (plt n t (a + 1) - 48)) := by
        rw [pk_sub (by omega), pk_mul, nI_add, pk_sub (by omega)]
        congr 1
        omega
      refine b24_47 (ct1 := ct1) (D1 := D) (v1 := nI (plt n t (a + 1))) (by rw [nI_add]; exact e25 ht1 (by omega)) ?_
      refine b24_57 (j73 := i) (zix_nI (by omega) (by decide)) (ct1 := u2 (u2 ct1 10 i (nI (10 * (plt n t a - 48) + (plt n t (a + 1) - 48)))) 1 5 (nI i + nI 1)) (D1 := D) (v1 := nI (plt n t (a + 2))) ?_ ?_
      · rw [en, nI_add, nI_add]
        refine e25 (ht1.fr ⟨fun b z1 z2 => by rw [u2_n z2, u2_n (by omega)], fun j z1 z2 => by rw [u2_a, if_neg (fun z => z1 z.2), u2_n (by omega)]⟩) (by omega)
      · have := step _ _ (nI 10 * (nI (plt n t a) - nI 48) + nI (plt n t (a + 1)) - nI 48) hv (by omega) (by omega)
        rw [nI_add, nI_add]; exact this
theorem e24 (h : TX n t ct) (ha : a ≤ 250) : CE X (d + 2) 24 [.ref 1, .int (nI a)] D ct (fun v D' ct' => D = D' ∧ FN ct ct' ∧ ((pns n t 4 a = none ∧ v = some (.int (-4))) ∨ ∃ l e, pns n t 4 a = some (l, e) ∧ v = some (.int (nI e)) ∧ NB ct' l)) := by
  refine CE_of (Nat.le_of_ble_eq_true rfl) (b24_0 ?_)
  exact r24 h 4 0 a [] ct rfl rfl (by omega) (FN.r ct) (fun j hj => by omega) (fun e ct2 hf => zQ_of ⟨rfl, hf, Or.inl ⟨e, rfl⟩⟩) (fun l e e2 ct2 hf hb => zQ_of ⟨rfl, hf, Or.inr ⟨l, e, e2, rfl, hb⟩⟩) _ _ trivial trivial
end
