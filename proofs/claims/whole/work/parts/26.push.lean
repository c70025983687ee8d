/-! Past.push, Past.pop. -/
section
variable {X : Nat × (Nat → Int32)} {d q q2 n n2 t w : Nat} {D D2 : zD} {E : zD} {ct ct3 : zM} {s : Nat → Int32} {h h2 : Nat → Nat → Int32}
theorem f57 (hq : QQ q q2) (hd : CDv D) (ht : t < 8) (hn : n ≤ 8) (h1 : pl D2 (q + 1) t = some w) (h3 : ∀ i, i ≠ t → pl D2 (q + 1) i = pl D (q + 1) i) (h4 : pl D2 (q2 + 1) = pl D (q2 + 1)) (hz : ∀ a, 45 ≤ a → zsh D a = (3, 0) → zsh D2 a = (3, 0)) (hw : zsh D2 w = (3, 0)) (h45 : 45 ≤ w)
    (hf1 : ∀ i a, i ≠ t → pl D (q + 1) i = some a → a ≠ w) (hf2 : ∀ i a, pl D (q2 + 1) i = some a → a ≠ w)
    (k : ∀ b, ¬ (w ≤ b ∧ b ≤ w + 3) → b ≠ q → ct3 b = ct b) (hm : zTm ct3 w s) (k1 : ct3 q 1 = nI (if t + 1 < 8 then t + 1 else 0)) (k2 : ct3 q 2 = nI (if n < 8 then n + 1 else n))
    (hr : ∀ i, i < n → ∃ a, pl D (q + 1) ((t + 7 - i) % 8) = some a ∧ zTm ct a (h i)) (hr2 : CR ct q2 (pl D (q2 + 1)) n2 h2) :
    CDv D2 ∧ CR ct3 q (pl D2 (q + 1)) (if n < 8 then n + 1 else n) (spu s h) ∧ CR ct3 q2 (pl D2 (q2 + 1)) n2 h2 := by
  have hv := hd.pv hq
  have q45 : q < 45 ∧ q2 < 45 ∧ q2 ≠ q := by rcases hq with ⟨rfl, rfl⟩ | ⟨rfl, rfl⟩ <;> decide
  have keep : ∀ a, 45 ≤ a → zsh D a = (3, 0) → a ≠ w → ∀ b, a ≤ b → b ≤ a + 3 → ct3 b = ct b := by
    intro a ha hs hne b z1 z2
    have := zsep (hz a ha hs) hw hne
    exact k b (by omega) (by omega)
  refine ⟨PV.cdv ⟨fun i a ha => ?_, fun i a ha => ?_, fun i i' a ha ha' => ?_, fun i i' a ha ha' => ?_, fun i i' a ha ha' => ?_⟩ hq, ⟨k2, (if t + 1 < 8 then t + 1 else 0), ?_, k1, fun i hi => ?_⟩, ?_⟩
  · by_cases e : i = t
    · subst e
      rw [h1] at ha
      cases ha
      exact ⟨h45, hw⟩
    · rw [h3 i e] at ha
      exact ⟨(hv.1 i a ha).1, hz a (hv.1 i a ha).1 (hv.1 i a ha).2⟩
  · rw [h4] at ha
    exact ⟨(hv.2.1 i a ha).1, hz a (hv.2.1 i a ha).1 (hv.2.1 i a ha).2⟩
  · by_cases e : i = t
    · by_cases e' : i' = t
      · rw [e, e']
      · subst e
        rw [h1] at ha
        cases ha
        rw [h3 i' e'] at ha'
        exact absurd rfl (hf1 i' w e' ha')
    · rw [h3 i e] at ha
      by_cases e' : i' = t
      · subst e'
        rw [h1] at ha'
        cases ha'
        exact absurd rfl (hf1 i w e ha)
      · rw [h3 i' e'] at ha'
        exact hv.2.2.1 i i' a ha ha'
  · rw [h4] at ha ha'
    exact hv.2.2.2.1 i i' a ha ha'
  · rw [h4] at ha'
    by_cases e : i = t
    · subst e
      rw [h1] at ha
      cases ha
      exact absurd rfl (hf2 i' w ha')
    · rw [h3 i e] at ha
      exact hv.2.2.2.2 i i' a ha ha'
  · split <;> omega
  · by_cases e : i = 0
    · subst e
      refine ⟨w, ?_, hm⟩
      rw [← h1]
      congr 1
      split <;> omega
    · have hi2 : i - 1 < n ∧ i < 8 := by
        split at hi <;> omega
      obtain ⟨a, ha, hm2⟩ := hr (i - 1) hi2.1
      have e1 : ((if t + 1 < 8 then t + 1 else 0) + 7 - i) % 8 = (t + 7 - (i - 1)) % 8 := by split <;> omega
      have e2 : (t + 7 - (i - 1)) % 8 ≠ t := by omega
      refine ⟨a, ?_, ?_⟩
      · rw [e1, h3 _ e2]; exact ha
      · unfold spu
        rw [if_neg e]
        exact hm2.keep (keep a (hv.1 _ a ha).1 (hv.1 _ a ha).2 (hf1 _ a e2 ha))
  · rw [h4]
    refine hr2.keep2 (k q2 (by omega) q45.2.2) fun i a ha => ⟨ha, keep a (hv.2.1 i a ha).1 (hv.2.1 i a ha).2 (hf2 i a ha)⟩
theorem e57 (hq : QQ q q2) (hd : CDv (zDm E)) (hr : CR ct q (pl (zDm E) (q + 1)) n h) (hr2 : CR ct q2 (pl (zDm E) (q2 + 1)) n2 h2) (hn : n ≤ 8) (hm : zTm ct 14 s) (hb : ∀ j, j < 36 → zb (ct 17 j)) :
    CE X (d + 2) 57 [.ref q, .ref 14] (zDm E) ct (fun v D' ct' => v = none ∧ (∃ E', D' = zDm E' ∧ E.1 ≤ E'.1 ∧ E'.1 ≤ E.1 + 1) ∧ CDv D' ∧ CR ct' q (pl D' (q + 1)) (if n < 8 then n + 1 else n) (spu s h) ∧ CR ct' q2 (pl D' (q2 + 1)) n2 h2 ∧ ∀ b, b < 45 → b ≠ q → ct' b = ct b) := by
  have hv := hd.pv hq
  have hs : ∀ D : zD, zsh D q = (4, 0) := by intro D; rcases hq with ⟨rfl, -⟩ | ⟨rfl, -⟩ <;> rfl
  have hs2 : ∀ D : zD, zsh D (q + 1) = (13, 8) := by intro D; rcases hq with ⟨rfl, -⟩ | ⟨rfl, -⟩ <;> rfl
  have q45 : q < 45 ∧ q ≠ 14 ∧ q ≠ 17 ∧ q2 + 1 ≠ q + 1 ∧ ((q + 1 = 19 ∨ q + 1 = 21) ∧ (q2 + 1 = 19 ∨ q2 + 1 = 21)) := by rcases hq with ⟨rfl, rfl⟩ | ⟨rfl, rfl⟩ <;> decide
  obtain ⟨g2, t, ht, g1, g3⟩ := hr
  refine CE_of (Nat.le_of_ble_eq_true rfl) ?_
  show RUN X (EV X (d + 1)) 57 _ 0 [.ref q, .ref 14] [] (mk (zDm E) ct)
  refine s_aload_n c57_0 rfl <| s_getf c57_1 (hs _) (by decide) rfl <| ?_
  rw [g1]
  refine s_iflt c57_4 (fun z => absurd z (nI_nlt (by omega) (by omega))) (fun _ => ?_)
  refine s_aload_n c57_7 rfl <| s_getf c57_8 (hs _) (by decide) rfl <| s_bipush c57_11 zcB_8 <| ?_
  rw [g1]
  refine s_iclt c57_13 (fun _ => ?_) (fun z => absurd ((zlt (by omega) (by omega)).2 ht) z)
  refine s_aload_n c57_17 rfl <| s_getf c57_18 (hs _) (by decide) rfl <| s_aload_n c57_21 rfl <| s_getf c57_22 (hs _) (by decide) rfl <| ?_
  rw [g1]
  rcases ho : pl (zDm E) (q + 1) t with _ | w
  · refine s_aald c57_25 (hs2 _) (zix_nI ht (by decide)) ho <| s_nonnull0 c57_26 <| ?_
    refine s_aload_n c57_29 rfl <| s_getf c57_30 (hs _) (by decide) rfl <| s_aload_n c57_33 rfl <| s_getf c57_34 (hs _) (by decide) rfl <| ?_
    rw [g1]
    refine s_newo (fs := [.null, .null, .null, .int 0, .int 0, .int 0]) c57_37 rfl <| s_dup c57_40 rfl <| ?_
    refine s_init (args := []) c57_41 rfl rfl (Nat.le_of_ble_eq_true rfl) (e4 (Nat.lt_succ_self _) hg_newl) ?_
    have em := mk_new (E := E) (ct := ct)
    show RUN X (EV X (d + 1)) 57 _ 44 [.ref q, .ref 14] [.ref (mk (zDm E) ct).1, .int (nI t), .ref (q + 1)] (hTown (xnew (mk (zDm E) ct) 6 (.inr (3, [.null, .null, .null, .int 0, .int 0, .int 0]))) (mk (zDm E) ct).1)
    rw [em, mk_s]
    have hw0 : zsh (zDm (E.1 + 1, E.2)) (45 + 4 * E.1) = (3, 0) := by
      rw [zsh_dy (by omega) (by unfold zDm; dsimp only; omega) (by unfold zDm; dsimp only; omega), show (45 + 4 * E.1 - 45) % 4 = 0 by omega]
      rfl
    refine s_aast c57_44 q45.2.2.2.2.1 (zix_nI ht (by decide)) hw0 ?_
    have hD2 : ∃ E', plu (zDm (E.1 + 1, E.2)) (q + 1) t (45 + 4 * E.1) = zDm E' ∧ E.1 ≤ E'.1 ∧ E'.1 ≤ E.1 + 1 := by
      unfold plu zDm
      split
      · exact ⟨(E.1 + 1, va_up E.2.1 t (some (45 + 4 * E.1)), E.2.2), rfl, by dsimp only; omega, by dsimp only; omega⟩
      · exact ⟨(E.1 + 1, E.2.1, va_up E.2.2 t (some (45 + 4 * E.1))), rfl, by dsimp only; omega, by dsimp only; omega⟩
    have hold : ∀ a, 45 ≤ a → zsh (zDm E) a = (3, 0) → a + 3 < 45 + 4 * E.1 := by
      intro a ha hs
      have := zsh_at hs
      unfold zDm at this
      dsimp only at this
      omega
    have kz : ∀ b, ¬ (45 + 4 * E.1 ≤ b ∧ b ≤ 45 + 4 * E.1 + 3) → zw ct (45 + 4 * E.1) b = ct b := by
      intro b hb
      unfold zw
      rw [if_neg hb]
    have hw1 := (zsh_u (plu_1 (D := zDm (E.1 + 1, E.2)) (a := q + 1) (j := t) (w := 45 + 4 * E.1)) (45 + 4 * E.1)).trans hw0
    have hpt : pl (plu (zDm (E.1 + 1, E.2)) (q + 1) t (45 + 4 * E.1)) (q + 1) t = some (45 + 4 * E.1) := by rw [plu_pl, va_up_self]
    refine r57 hq hpt ht hn hw1 (by omega) ((congrFun (kz q (by omega)) 1).trans g1) ((congrFun (kz q (by omega)) 2).trans g2) (hm.keep fun b _ _ => kz b (by omega)) (fun j hj => by rw [kz 17 (by omega)]; exact hb j hj) fun ct3 p1 p2 p3 p4 => zQ_of ?_
    have p2' : ∀ b, ¬ (45 + 4 * E.1 ≤ b ∧ b ≤ 45 + 4 * E.1 + 3) → b ≠ q → ct3 b = ct b := fun b z1 z2 => (p2 b z1 z2).trans (kz b z1)
    obtain ⟨r1, r2, r3⟩ := f57 hq hd ht hn hpt (fun i hi => by rw [plu_pl, va_up_ne _ _ hi]; rfl) (by rw [plu_o q45.2.2.2.1 q45.2.2.2.2]; rfl) (fun a ha hs => (zsh_u plu_1 a).trans ((zsh_nw (by have := hold a ha hs; omega)).symm.trans hs)) hw1 (by omega) (fun i a _ ha => by have := hold a (hv.1 i a ha).1 (hv.1 i a ha).2; omega) (fun i a ha => by have := hold a (hv.2.1 i a ha).1 (hv.2.1 i a ha).2; omega) p2' p1 p3 p4 g3 hr2
    exact ⟨rfl, hD2, r1, r2, r3, fun b z1 z2 => p2' b (by omega) z2⟩
  · refine s_aald c57_25 (hs2 _) (zix_nI ht (by decide)) ho <| s_nonnull1 c57_26 <| ?_
    have hw := hv.1 _ _ ho
    refine r57 hq ho ht hn hw.2 hw.1 g1 g2 hm hb fun ct3 p1 p2 p3 p4 => zQ_of ?_
    obtain ⟨r1, r2, r3⟩ := f57 hq hd ht hn ho (fun i hi => rfl) rfl (fun a ha hs => hs) hw.2 hw.1 (fun i a hi ha e => hi (hv.2.2.1 i t a ha (by rw [e]; exact ho))) (fun i a ha e => hv.2.2.2.2 t i a (by rw [e]; exact ho) ha) p2 p1 p3 p4 g3 hr2
    exact ⟨rfl, ⟨E, rfl, Nat.le_refl _, Nat.le_succ _⟩, r1, r2, r3, fun b z1 z2 => p2 b (by omega) z2⟩
theorem e67 (hq : QQ q q2) (hd : CDv D) (hr : CR ct q (pl D (q + 1)) n h) (hn : n ≤ 8) (hb : 0 < n → ∀ j, j < 36 → zb (h 0 (72 + j))) :
    CE X (d + 2) 67 [.ref q, .ref 14] D ct (fun v D' ct' => D = D' ∧ ((n = 0 ∧ v = some (.int (nI 0)) ∧ ct = ct') ∨ (0 < n ∧ v = some (.int (nI 1)) ∧ zTm ct' 14 (h 0) ∧ CR ct' q (pl D (q + 1)) (n - 1) (fun i => h (i + 1)) ∧ ∀ b, ¬ (14 ≤ b ∧ b ≤ 17) → b ≠ q → ct' b = ct b))) := by
  have hv := hd.pv hq
  have hs : zsh D q = (4, 0) := by rcases hq with ⟨rfl, -⟩ | ⟨rfl, -⟩ <;> rfl
  have hs2 : zsh D (q + 1) = (13, 8) := by rcases hq with ⟨rfl, -⟩ | ⟨rfl, -⟩ <;> rfl
  have q45 : 17 < q ∧ q < 45 := by rcases hq with ⟨rfl, rfl⟩ | ⟨rfl, rfl⟩ <;> decide
  obtain ⟨g2, t, ht, g1, g3⟩ := hr
  refine CE_of (Nat.le_of_ble_eq_true rfl) ?_
  show RUN X (EV X (d + 1)) 67 _ 0 [.ref q, .ref 14, .double 0] [] (mk D ct)
  have fin : ∀ l : Nat, l = (t + 7) % 8 → RUN X (EV X (d + 1)) 67 (zQ (fun v D' ct' => D = D' ∧ ((n = 0 ∧ v = some (.int (nI 0)) ∧ ct = ct') ∨ (0 < n ∧ v = some (.int (nI 1)) ∧ zTm ct' 14 (h 0) ∧ CR ct' q (pl D (q + 1)) (n - 1) (fun i => h (i + 1)) ∧ ∀ b, ¬ (14 ≤ b ∧ b ≤ 17) → b ≠ q → ct' b = ct b)))) 27 [.ref q, .ref 14, .double 0] [.int (nI l)] (mk D ct) := by
    intro l hl
    refine s_istore_n c67_27 (Nat.le_of_ble_eq_true rfl) trivial ?_
    show RUN X (EV X (d + 1)) 67 _ 28 [.ref q, .ref 14, .int (nI l)] [] (mk D ct)
    refine s_aload_n c67_28 rfl <| s_getf c67_29 hs (by decide) rfl <| s_const c67_32 zcI_1 <| ?_
    rw [g2]
    refine s_iclt c67_33 (fun z => ?_) (fun z => ?_)
    · rw [zlt (by omega) (by omega)] at z
      exact s_const c67_45 zcI_0 <| s_iret c67_46 (xrtZ rfl (Or.inl rfl)) (zQ_of ⟨rfl, Or.inl ⟨by omega, rfl, rfl⟩⟩)
    · rw [zlt (by omega) (by omega)] at z
      obtain ⟨w, hw, hwm⟩ := g3 0 (by omega)
      rw [show (t + 7 - 0) % 8 = l by omega] at hw
      have hw3 := hv.1 _ _ hw
      refine s_aload_n c67_36 rfl <| s_getf c67_37 hs (by decide) rfl <| s_iload_n c67_40 rfl <| s_aald c67_41 hs2 (zix_nI (by omega) (by decide)) hw <| s_nonnull1 c67_42 <| ?_
      refine s_aload_n c67_47 rfl <| s_aload_n c67_48 rfl <| s_getf c67_49 hs (by decide) rfl <| s_iload_n c67_52 rfl <| s_aald c67_53 hs2 (zix_nI (by omega) (by decide)) hw <| ?_
      obtain ⟨_, _, ct2, he, rfl, rfl, k1, k2⟩ := e34 (X := X) (D := D) (ct := ct) (d := d) (a := 14) (o := w) rfl hw3.2 (by omega) (fun j hj => by rw [(hwm.1 j hj).2.2]; exact hb (by omega) j hj)
      refine s_callv (args := [.ref w]) (a := 14) c67_54 rfl rfl (by decide) rfl ⟨rfl, by decide⟩ he ?_
      have kq : ct2 q = ct q := k2 q (by omega)
      refine s_aload_n c67_57 rfl <| s_iload_n c67_58 rfl <| s_putf c67_59 hs (by decide) zint_4_1 xfit_4_1 <| s_aload_n c67_62 rfl <| s_dup c67_63 rfl <| s_getf c67_64 hs (by decide) rfl <| s_const c67_67 zcI_1 <| s_isub c67_68 <| s_putf c67_69 hs (by decide) zint_4_2 xfit_4_2 <| s_const c67_72 zcI_1 <| s_iret c67_73 (xrtZ rfl (Or.inr rfl)) (zQ_of ⟨rfl, Or.inr ⟨by omega, rfl, ?_, ⟨?_, l, by omega, ?_, fun i hi => ?_⟩, fun b z1 z2 => by rw [u2_n z2, u2_n z2]; exact k2 b (by omega)⟩⟩)
      · exact (hwm.of k1).keep fun b z1 z2 => by rw [u2_n (by omega), u2_n (by omega)]
      · rw [u2_a, if_pos ⟨rfl, rfl⟩, u2_a, if_neg (by omega), kq, g2, pk_sub (by omega)]
      · rw [u2_a, if_neg (by omega), u2_a, if_pos ⟨rfl, rfl⟩]
      · obtain ⟨a, ha, hm2⟩ := g3 (i + 1) (by omega)
        refine ⟨a, by rw [show (l + 7 - i) % 8 = (t + 7 - (i + 1)) % 8 by omega]; exact ha, ?_⟩
        have := (hv.1 _ a ha).1
        exact hm2.keep fun b z1 z2 => by rw [u2_n (by omega), u2_n (by omega)]; exact k2 b (by omega)
  refine s_aload_n c67_0 rfl <| s_getf c67_1 hs (by decide) rfl <| ?_
  rw [g1]
  refine s_ifle c67_4 (fun z => ?_) (fun z => ?_)
  · rw [zle (by omega) (by omega)] at z
    exact s_bipush c67_25 zcB_7 (fin 7 (by omega))
  · rw [zle (by omega) (by omega)] at z
    refine s_aload_n c67_7 rfl <| s_getf c67_8 hs (by decide) rfl <| s_bipush c67_11 zcB_8 <| ?_
    rw [g1]
    refine s_icge c67_13 (fun z => ?_) (fun _ => ?_)
    · rw [zle (by omega) (by omega)] at z; omega
    refine s_aload_n c67_16 rfl <| s_getf c67_17 hs (by decide) rfl <| s_const c67_20 zcI_1 <| s_isub c67_21 <| s_goto c67_22 <| ?_
    rw [g1, pk_sub (by omega)]
    exact fin (t - 1) (by omega)
end
