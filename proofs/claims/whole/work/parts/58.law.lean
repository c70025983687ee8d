/-! The law: both made, then call by call. -/
section
variable {X : Nat × (Nat → Int32)} {D E : zD} {ct σ : zM} {d : Nat}
theorem law_two {m mM : Nat} {args : List Value} {P1 P2 : Option Value → Prop} {σ' : zM} (kc : CE X 20 m (.ref 0 :: args) (zDm E) ct (fun v D' ct' => P1 v ∧ PC σ' (zDm E) ct D' ct')) (kr : ∀ E' ct', MA σ ct' → CE X 20 mM (.ref 33 :: args) (zDm E') ct' (fun v D'' ct'' => P2 v ∧ PM σ' E' ct' D'' ct'')) (ha : MA σ ct) : ∃ v1 v2 E' ct1 ct2, EV X 20 m (.ref 0 :: args) (mk (zDm E) ct) v1 (mk (zDm E') ct1) ∧ EV X 20 mM (.ref 33 :: args) (mk (zDm E') ct1) v2 (mk (zDm E') ct2) ∧ P1 v1 ∧ P2 v2 ∧ E.1 ≤ E'.1 ∧ E'.1 ≤ E.1 + 1 ∧ CA σ' (zDm E') ct2 ∧ MA σ' ct2 := by
  obtain ⟨v1, D', ct1, he1, hp1, hc, hm, l1, l2⟩ := kc
  have e1 : (zDm E).1 = E.1 + 1 := rfl
  obtain ⟨E', rfl⟩ := zDm_of (D := D') (by omega)
  have e2 : (zDm E').1 = E'.1 + 1 := rfl
  obtain ⟨v2, D'', ct2, he2, hp2, hma, hf, rfl⟩ := kr E' ct1 (ha.keep hm)
  exact ⟨v1, v2, E', ct1, ct2, he1, he2, hp1, hp2, by omega, by omega, hc.keep (fun b hb => hf b (fun z => by unfold cRow at hb; unfold mRow at z; omega)) (by rw [hf 0 (fun z => by unfold mRow at z; omega)]) (by rw [hf 1 (fun z => by unfold mRow at z; omega)]), hma⟩
/-- the end that the law is to come to -/
def LE (v : Option Value) (h : xHp) : Prop := v = some (.int 1) ∧ h.1 ≤ 600000 ∧ h.2.1 ≤ 7302250
theorem law_end {x3 : Int32} (hE : E.1 ≤ 100) : RUN X (EV X 20) 86 LE 834 [.retAddr 4, .ref 0, .ref 33, .int x3] [] (mk (zDm E) ct) := by
  refine b86_834 ⟨rfl, ?_, ?_⟩
  · rw [mk_s]; omega
  · show (if E.1 + 1 = 0 then 745 else 2366 + 114 * (E.1 + 1)) ≤ 7302250
    rw [if_neg (by omega)]
    omega
theorem lc_0 {i : Nat} (hX1 : X.1 ≤ 1000) (hi : i + 4 ≤ X.1) (h : WF σ) (hc : CA σ (zDm E) ct) (ha : MA σ ct) (hn : ∀ E1 ct1 s1, E.1 ≤ E1.1 → E1.1 ≤ E.1 + 1 → WF s1 → CA s1 (zDm E1) ct1 → MA s1 ct1 → RUN X (EV X 20) 86 LE 828 [.retAddr 4, .ref 0, .ref 33, .int (nI i)] [] (mk (zDm E1) ct1)) : RUN X (EV X 20) 86 LE 168 [.retAddr 4, .ref 0, .ref 33, .int (nI i)] [] (mk (zDm E) ct) := by
  obtain ⟨v1, v2, E1, ct1, ct2, he1, he2, rfl, rfl, l1, l2, q1, q2⟩ := law_two (X := X) (E := E) (ct := ct) (σ := σ) (m := 37) (mM := 107) (args := [.int (X.2 (i + 1))]) (P1 := (fun v => v = some (.int (g37 σ (X.2 (i + 1))).1))) (P2 := (fun v => v = some (.int (g37 σ (X.2 (i + 1))).1))) (σ' := (g37 σ (X.2 (i + 1))).2) (k37 (X := X) (d := 18) h hc) (fun E1 c1 hm => k107 (X := X) (d := 18) h hm) ha
  exact b86_168 (j173 := i + 1) ⟨by rw [nI_add], by omega, hX1⟩ he1 (b86_177 (j182 := i + 1) ⟨by rw [nI_add], by omega, hX1⟩ he2 (b86_186 (fun _ => hn E1 ct2 _ l1 l2 (WF_37 h) q1 q2) (fun z => absurd rfl z)))
theorem lc_1 {i : Nat} (hX1 : X.1 ≤ 1000) (hi : i + 4 ≤ X.1) (h : WF σ) (hc : CA σ (zDm E) ct) (ha : MA σ ct) (hn : ∀ E1 ct1 s1, E.1 ≤ E1.1 → E1.1 ≤ E.1 + 1 → WF s1 → CA s1 (zDm E1) ct1 → MA s1 ct1 → RUN X (EV X 20) 86 LE 828 [.retAddr 4, .ref 0, .ref 33, .int (nI i)] [] (mk (zDm E1) ct1)) : RUN X (EV X 20) 86 LE 191 [.retAddr 4, .ref 0, .ref 33, .int (nI i)] [] (mk (zDm E) ct) := by
  obtain ⟨v1, v2, E1, ct1, ct2, he1, he2, rfl, rfl, l1, l2, q1, q2⟩ := law_two (X := X) (E := E) (ct := ct) (σ := σ) (m := 38) (mM := 109) (args := []) (P1 := (fun v => v = some (.int (g38 σ).1))) (P2 := (fun v => v = some (.int (g38 σ).1))) (σ' := (g38 σ).2) (k38 (X := X) (d := 19) h hc) (fun E1 c1 hm => k109 (X := X) (d := 19) hm) ha
  exact b86_191  he1 (b86_195  he2 (b86_199 (fun _ => hn E1 ct2 _ l1 l2 (WF_38 h) q1 q2) (fun z => absurd rfl z)))
theorem lc_2 {i : Nat} (hX1 : X.1 ≤ 1000) (hi : i + 4 ≤ X.1) (h : WF σ) (hc : CA σ (zDm E) ct) (ha : MA σ ct) (hn : ∀ E1 ct1 s1, E.1 ≤ E1.1 → E1.1 ≤ E.1 + 1 → WF s1 → CA s1 (zDm E1) ct1 → MA s1 ct1 → RUN X (EV X 20) 86 LE 828 [.retAddr 4, .ref 0, .ref 33, .int (nI i)] [] (mk (zDm E1) ct1)) : RUN X (EV X 20) 86 LE 204 [.retAddr 4, .ref 0, .ref 33, .int (nI i)] [] (mk (zDm E) ct) := by
  obtain ⟨v1, v2, E1, ct1, ct2, he1, he2, rfl, rfl, l1, l2, q1, q2⟩ := law_two (X := X) (E := E) (ct := ct) (σ := σ) (m := 39) (mM := 110) (args := []) (P1 := (fun v => v = some (.int (f39 σ)))) (P2 := (fun v => v = some (.int (f39 σ)))) (σ' := σ) (k39 (X := X) (d := 15) h hc) (fun E1 c1 hm => k110 (X := X) (d := 15) h hm) ha
  exact b86_204  he1 (b86_208  he2 (b86_212 (fun _ => hn E1 ct2 _ l1 l2 h q1 q2) (fun z => absurd rfl z)))
theorem lc_3 {i : Nat} (hX1 : X.1 ≤ 1000) (hi : i + 4 ≤ X.1) (h : WF σ) (hc : CA σ (zDm E) ct) (ha : MA σ ct) (hn : ∀ E1 ct1 s1, E.1 ≤ E1.1 → E1.1 ≤ E.1 + 1 → WF s1 → CA s1 (zDm E1) ct1 → MA s1 ct1 → RUN X (EV X 20) 86 LE 828 [.retAddr 4, .ref 0, .ref 33, .int (nI i)] [] (mk (zDm E1) ct1)) : RUN X (EV X 20) 86 LE 217 [.retAddr 4, .ref 0, .ref 33, .int (nI i)] [] (mk (zDm E) ct) := by
  obtain ⟨v1, v2, E1, ct1, ct2, he1, he2, rfl, rfl, l1, l2, q1, q2⟩ := law_two (X := X) (E := E) (ct := ct) (σ := σ) (m := 40) (mM := 121) (args := []) (P1 := (fun v => v = some (.int (g40 σ).1))) (P2 := (fun v => v = some (.int (g40 σ).1))) (σ' := (g40 σ).2) (k40 (X := X) (d := 14) h hc) (fun E1 c1 hm => k121 (X := X) (d := 14) h hm) ha
  exact b86_217  he1 (b86_221  he2 (b86_225 (fun _ => hn E1 ct2 _ l1 l2 (WF_40 h) q1 q2) (fun z => absurd rfl z)))
theorem lc_4 {i : Nat} (hX1 : X.1 ≤ 1000) (hi : i + 4 ≤ X.1) (h : WF σ) (hc : CA σ (zDm E) ct) (ha : MA σ ct) (hn : ∀ E1 ct1 s1, E.1 ≤ E1.1 → E1.1 ≤ E.1 + 1 → WF s1 → CA s1 (zDm E1) ct1 → MA s1 ct1 → RUN X (EV X 20) 86 LE 828 [.retAddr 4, .ref 0, .ref 33, .int (nI i)] [] (mk (zDm E1) ct1)) : RUN X (EV X 20) 86 LE 230 [.retAddr 4, .ref 0, .ref 33, .int (nI i)] [] (mk (zDm E) ct) := by
  obtain ⟨v1, v2, E1, ct1, ct2, he1, he2, rfl, rfl, l1, l2, q1, q2⟩ := law_two (X := X) (E := E) (ct := ct) (σ := σ) (m := 41) (mM := 123) (args := [.int (X.2 (i + 1)), .int (X.2 (i + 2))]) (P1 := (fun v => v = some (.int (f41 σ (X.2 (i + 1)) (X.2 (i + 2)))))) (P2 := (fun v => v = some (.int (f41 σ (X.2 (i + 1)) (X.2 (i + 2)))))) (σ' := σ) (k41 (X := X) (d := 14) h hc) (fun E1 c1 hm => k123 (X := X) (d := 15) h hm) ha
  exact b86_230 (j235 := i + 1) ⟨by rw [nI_add], by omega, hX1⟩ (j240 := i + 2) ⟨by rw [nI_add], by omega, hX1⟩ he1 (b86_244 (j249 := i + 1) ⟨by rw [nI_add], by omega, hX1⟩ (j254 := i + 2) ⟨by rw [nI_add], by omega, hX1⟩ he2 (b86_258 (fun _ => hn E1 ct2 _ l1 l2 h q1 q2) (fun z => absurd rfl z)))
theorem lc_5 {i : Nat} (hX1 : X.1 ≤ 1000) (hi : i + 4 ≤ X.1) (h : WF σ) (hc : CA σ (zDm E) ct) (ha : MA σ ct) (hn : ∀ E1 ct1 s1, E.1 ≤ E1.1 → E1.1 ≤ E.1 + 1 → WF s1 → CA s1 (zDm E1) ct1 → MA s1 ct1 → RUN X (EV X 20) 86 LE 828 [.retAddr 4, .ref 0, .ref 33, .int (nI i)] [] (mk (zDm E1) ct1)) : RUN X (EV X 20) 86 LE 263 [.retAddr 4, .ref 0, .ref 33, .int (nI i)] [] (mk (zDm E) ct) := by
  obtain ⟨v1, v2, E1, ct1, ct2, he1, he2, rfl, rfl, l1, l2, q1, q2⟩ := law_two (X := X) (E := E) (ct := ct) (σ := σ) (m := 50) (mM := 132) (args := [.int (X.2 (i + 1))]) (P1 := (fun v => v = some (.int (f50 σ (X.2 (i + 1)))))) (P2 := (fun v => v = some (.int (f50 σ (X.2 (i + 1)))))) (σ' := σ) (k50 (X := X) (d := 14) h hc) (fun E1 c1 hm => k132 (X := X) (d := 13) h hm) ha
  exact b86_263 (j268 := i + 1) ⟨by rw [nI_add], by omega, hX1⟩ he1 (b86_272 (j277 := i + 1) ⟨by rw [nI_add], by omega, hX1⟩ he2 (b86_281 (fun _ => hn E1 ct2 _ l1 l2 h q1 q2) (fun z => absurd rfl z)))
theorem lc_6 {i : Nat} (hX1 : X.1 ≤ 1000) (hi : i + 4 ≤ X.1) (h : WF σ) (hc : CA σ (zDm E) ct) (ha : MA σ ct) (hn : ∀ E1 ct1 s1, E.1 ≤ E1.1 → E1.1 ≤ E.1 + 1 → WF s1 → CA s1 (zDm E1) ct1 → MA s1 ct1 → RUN X (EV X 20) 86 LE 828 [.retAddr 4, .ref 0, .ref 33, .int (nI i)] [] (mk (zDm E1) ct1)) : RUN X (EV X 20) 86 LE 286 [.retAddr 4, .ref 0, .ref 33, .int (nI i)] [] (mk (zDm E) ct) := by
  obtain ⟨v1, v2, E1, ct1, ct2, he1, he2, rfl, rfl, l1, l2, q1, q2⟩ := law_two (X := X) (E := E) (ct := ct) (σ := σ) (m := 56) (mM := 136) (args := [.int (X.2 (i + 1))]) (P1 := (fun v => v = some (.int (g56 σ (X.2 (i + 1))).1))) (P2 := (fun v => v = some (.int (g56 σ (X.2 (i + 1))).1))) (σ' := (g56 σ (X.2 (i + 1))).2) (k56 (X := X) (d := 17) h hc) (fun E1 c1 hm => k136 (X := X) (d := 17) h hm) ha
  exact b86_286 (j291 := i + 1) ⟨by rw [nI_add], by omega, hX1⟩ he1 (b86_295 (j300 := i + 1) ⟨by rw [nI_add], by omega, hX1⟩ he2 (b86_304 (fun _ => hn E1 ct2 _ l1 l2 (WF_56 h) q1 q2) (fun z => absurd rfl z)))
theorem lc_7 {i : Nat} (hX1 : X.1 ≤ 1000) (hi : i + 4 ≤ X.1) (h : WF σ) (hc : CA σ (zDm E) ct) (ha : MA σ ct) (hn : ∀ E1 ct1 s1, E.1 ≤ E1.1 → E1.1 ≤ E.1 + 1 → WF s1 → CA s1 (zDm E1) ct1 → MA s1 ct1 → RUN X (EV X 20) 86 LE 828 [.retAddr 4, .ref 0, .ref 33, .int (nI i)] [] (mk (zDm E1) ct1)) : RUN X (EV X 20) 86 LE 309 [.retAddr 4, .ref 0, .ref 33, .int (nI i)] [] (mk (zDm E) ct) := by
  obtain ⟨v1, v2, E1, ct1, ct2, he1, he2, rfl, rfl, l1, l2, q1, q2⟩ := law_two (X := X) (E := E) (ct := ct) (σ := σ) (m := 58) (mM := 139) (args := [.int (X.2 (i + 1)), .int (X.2 (i + 2))]) (P1 := (fun v => v = some (.int (g58 σ (X.2 (i + 1)) (X.2 (i + 2))).1))) (P2 := (fun v => v = some (.int (g58 σ (X.2 (i + 1)) (X.2 (i + 2))).1))) (σ' := (g58 σ (X.2 (i + 1)) (X.2 (i + 2))).2) (k58 (X := X) (d := 17) h hc) (fun E1 c1 hm => k139 (X := X) (d := 17) h hm) ha
  exact b86_309 (j314 := i + 1) ⟨by rw [nI_add], by omega, hX1⟩ (j319 := i + 2) ⟨by rw [nI_add], by omega, hX1⟩ he1 (b86_323 (j328 := i + 1) ⟨by rw [nI_add], by omega, hX1⟩ (j333 := i + 2) ⟨by rw [nI_add], by omega, hX1⟩ he2 (b86_337 (fun _ => hn E1 ct2 _ l1 l2 (WF_58 h) q1 q2) (fun z => absurd rfl z)))
theorem lc_8 {i : Nat} (hX1 : X.1 ≤ 1000) (hi : i + 4 ≤ X.1) (h : WF σ) (hc : CA σ (zDm E) ct) (ha : MA σ ct) (hn : ∀ E1 ct1 s1, E.1 ≤ E1.1 → E1.1 ≤ E.1 + 1 → WF s1 → CA s1 (zDm E1) ct1 → MA s1 ct1 → RUN X (EV X 20) 86 LE 828 [.retAddr 4, .ref 0, .ref 33, .int (nI i)] [] (mk (zDm E1) ct1)) : RUN X (EV X 20) 86 LE 342 [.retAddr 4, .ref 0, .ref 33, .int (nI i)] [] (mk (zDm E) ct) := by
  obtain ⟨v1, v2, E1, ct1, ct2, he1, he2, rfl, rfl, l1, l2, q1, q2⟩ := law_two (X := X) (E := E) (ct := ct) (σ := σ) (m := 59) (mM := 140) (args := []) (P1 := (fun v => v = some (.int (g59 σ).1))) (P2 := (fun v => v = some (.int (g59 σ).1))) (σ' := (g59 σ).2) (k59 (X := X) (d := 17) h hc) (fun E1 c1 hm => k140 (X := X) (d := 17) h hm) ha
  exact b86_342  he1 (b86_346  he2 (b86_350 (fun _ => hn E1 ct2 _ l1 l2 (WF_59 h) q1 q2) (fun z => absurd rfl z)))
theorem lc_9 {i : Nat} (hX1 : X.1 ≤ 1000) (hi : i + 4 ≤ X.1) (h : WF σ) (hc : CA σ (zDm E) ct) (ha : MA σ ct) (hn : ∀ E1 ct1 s1, E.1 ≤ E1.1 → E1.1 ≤ E.1 + 1 → WF s1 → CA s1 (zDm E1) ct1 → MA s1 ct1 → RUN X (EV X 20) 86 LE 828 [.retAddr 4, .ref 0, .ref 33, .int (nI i)] [] (mk (zDm E1) ct1)) : RUN X (EV X 20) 86 LE 355 [.retAddr 4, .ref 0, .ref 33, .int (nI i)] [] (mk (zDm E) ct) := by
  obtain ⟨v1, v2, E1, ct1, ct2, he1, he2, rfl, rfl, l1, l2, q1, q2⟩ := law_two (X := X) (E := E) (ct := ct) (σ := σ) (m := 61) (mM := 141) (args := [.int (X.2 (i + 1))]) (P1 := (fun v => v = some (.int (g61 σ (X.2 (i + 1))).1))) (P2 := (fun v => v = some (.int (g61 σ (X.2 (i + 1))).1))) (σ' := (g61 σ (X.2 (i + 1))).2) (k61 (X := X) (d := 17) h hc) (fun E1 c1 hm => k141 (X := X) (d := 17) h hm) ha
  exact b86_355 (j360 := i + 1) ⟨by rw [nI_add], by omega, hX1⟩ he1 (b86_364 (j369 := i + 1) ⟨by rw [nI_add], by omega, hX1⟩ he2 (b86_373 (fun _ => hn E1 ct2 _ l1 l2 (WF_61 h) q1 q2) (fun z => absurd rfl z)))
theorem lc_10 {i : Nat} (hX1 : X.1 ≤ 1000) (hi : i + 4 ≤ X.1) (h : WF σ) (hc : CA σ (zDm E) ct) (ha : MA σ ct) (hn : ∀ E1 ct1 s1, E.1 ≤ E1.1 → E1.1 ≤ E.1 + 1 → WF s1 → CA s1 (zDm E1) ct1 → MA s1 ct1 → RUN X (EV X 20) 86 LE 828 [.retAddr 4, .ref 0, .ref 33, .int (nI i)] [] (mk (zDm E1) ct1)) : RUN X (EV X 20) 86 LE 378 [.retAddr 4, .ref 0, .ref 33, .int (nI i)] [] (mk (zDm E) ct) := by
  obtain ⟨v1, v2, E1, ct1, ct2, he1, he2, rfl, rfl, l1, l2, q1, q2⟩ := law_two (X := X) (E := E) (ct := ct) (σ := σ) (m := 62) (mM := 142) (args := [.int (X.2 (i + 1))]) (P1 := (fun v => v = some (.int (g62 σ (X.2 (i + 1))).1))) (P2 := (fun v => v = some (.int (g62 σ (X.2 (i + 1))).1))) (σ' := (g62 σ (X.2 (i + 1))).2) (k62 (X := X) (d := 17) h hc) (fun E1 c1 hm => k142 (X := X) (d := 17) h hm) ha
  exact b86_378 (j383 := i + 1) ⟨by rw [nI_add], by omega, hX1⟩ he1 (b86_387 (j392 := i + 1) ⟨by rw [nI_add], by omega, hX1⟩ he2 (b86_396 (fun _ => hn E1 ct2 _ l1 l2 (WF_62 h) q1 q2) (fun z => absurd rfl z)))
theorem lc_11 {i : Nat} (hX1 : X.1 ≤ 1000) (hi : i + 4 ≤ X.1) (h : WF σ) (hc : CA σ (zDm E) ct) (ha : MA σ ct) (hn : ∀ E1 ct1 s1, E.1 ≤ E1.1 → E1.1 ≤ E.1 + 1 → WF s1 → CA s1 (zDm E1) ct1 → MA s1 ct1 → RUN X (EV X 20) 86 LE 828 [.retAddr 4, .ref 0, .ref 33, .int (nI i)] [] (mk (zDm E1) ct1)) : RUN X (EV X 20) 86 LE 401 [.retAddr 4, .ref 0, .ref 33, .int (nI i)] [] (mk (zDm E) ct) := by
  obtain ⟨v1, v2, E1, ct1, ct2, he1, he2, rfl, rfl, l1, l2, q1, q2⟩ := law_two (X := X) (E := E) (ct := ct) (σ := σ) (m := 63) (mM := 143) (args := [.int (X.2 (i + 1))]) (P1 := (fun v => v = some (.int (g63 σ (X.2 (i + 1))).1))) (P2 := (fun v => v = some (.int (g63 σ (X.2 (i + 1))).1))) (σ' := (g63 σ (X.2 (i + 1))).2) (k63 (X := X) (d := 17) h hc) (fun E1 c1 hm => k143 (X := X) (d := 17) h hm) ha
  exact b86_401 (j406 := i + 1) ⟨by rw [nI_add], by omega, hX1⟩ he1 (b86_410 (j415 := i + 1) ⟨by rw [nI_add], by omega, hX1⟩ he2 (b86_419 (fun _ => hn E1 ct2 _ l1 l2 (WF_63 h) q1 q2) (fun z => absurd rfl z)))
theorem lc_12 {i : Nat} (hX1 : X.1 ≤ 1000) (hi : i + 4 ≤ X.1) (h : WF σ) (hc : CA σ (zDm E) ct) (ha : MA σ ct) (hn : ∀ E1 ct1 s1, E.1 ≤ E1.1 → E1.1 ≤ E.1 + 1 → WF s1 → CA s1 (zDm E1) ct1 → MA s1 ct1 → RUN X (EV X 20) 86 LE 828 [.retAddr 4, .ref 0, .ref 33, .int (nI i)] [] (mk (zDm E1) ct1)) : RUN X (EV X 20) 86 LE 424 [.retAddr 4, .ref 0, .ref 33, .int (nI i)] [] (mk (zDm E) ct) := by
  obtain ⟨v1, v2, E1, ct1, ct2, he1, he2, rfl, rfl, l1, l2, q1, q2⟩ := law_two (X := X) (E := E) (ct := ct) (σ := σ) (m := 64) (mM := 144) (args := [.int (X.2 (i + 1))]) (P1 := (fun v => v = some (.int (g64 σ (X.2 (i + 1))).1))) (P2 := (fun v => v = some (.int (g64 σ (X.2 (i + 1))).1))) (σ' := (g64 σ (X.2 (i + 1))).2) (k64 (X := X) (d := 17) h hc) (fun E1 c1 hm => k144 (X := X) (d := 17) h hm) ha
  exact b86_424 (j429 := i + 1) ⟨by rw [nI_add], by omega, hX1⟩ he1 (b86_433 (j438 := i + 1) ⟨by rw [nI_add], by omega, hX1⟩ he2 (b86_442 (fun _ => hn E1 ct2 _ l1 l2 (WF_64 h) q1 q2) (fun z => absurd rfl z)))
theorem lc_13 {i : Nat} (hX1 : X.1 ≤ 1000) (hi : i + 4 ≤ X.1) (h : WF σ) (hc : CA σ (zDm E) ct) (ha : MA σ ct) (hn : ∀ E1 ct1 s1, E.1 ≤ E1.1 → E1.1 ≤ E.1 + 1 → WF s1 → CA s1 (zDm E1) ct1 → MA s1 ct1 → RUN X (EV X 20) 86 LE 828 [.retAddr 4, .ref 0, .ref 33, .int (nI i)] [] (mk (zDm E1) ct1)) : RUN X (EV X 20) 86 LE 447 [.retAddr 4, .ref 0, .ref 33, .int (nI i)] [] (mk (zDm E) ct) := by
  obtain ⟨v1, v2, E1, ct1, ct2, he1, he2, rfl, rfl, l1, l2, q1, q2⟩ := law_two (X := X) (E := E) (ct := ct) (σ := σ) (m := 66) (mM := 146) (args := []) (P1 := (fun v => v = some (.int (g66 σ).1))) (P2 := (fun v => v = some (.int (g66 σ).1))) (σ' := (g66 σ).2) (k66 (X := X) (d := 17) h hc) (fun E1 c1 hm => k146 (X := X) (d := 18) h hm) ha
  exact b86_447  he1 (b86_451  he2 (b86_455 (fun _ => hn E1 ct2 _ l1 l2 (WF_66 h) q1 q2) (fun z => absurd rfl z)))
theorem lc_14 {i : Nat} (hX1 : X.1 ≤ 1000) (hi : i + 4 ≤ X.1) (h : WF σ) (hc : CA σ (zDm E) ct) (ha : MA σ ct) (hn : ∀ E1 ct1 s1, E.1 ≤ E1.1 → E1.1 ≤ E.1 + 1 → WF s1 → CA s1 (zDm E1) ct1 → MA s1 ct1 → RUN X (EV X 20) 86 LE 828 [.retAddr 4, .ref 0, .ref 33, .int (nI i)] [] (mk (zDm E1) ct1)) : RUN X (EV X 20) 86 LE 460 [.retAddr 4, .ref 0, .ref 33, .int (nI i)] [] (mk (zDm E) ct) := by
  obtain ⟨v1, v2, E1, ct1, ct2, he1, he2, rfl, rfl, l1, l2, q1, q2⟩ := law_two (X := X) (E := E) (ct := ct) (σ := σ) (m := 68) (mM := 147) (args := [.int (X.2 (i + 1)), .int (X.2 (i + 2))]) (P1 := (fun v => v = some (.int (f68 σ (X.2 (i + 1)) (X.2 (i + 2)))))) (P2 := (fun v => v = some (.int (f68 σ (X.2 (i + 1)) (X.2 (i + 2)))))) (σ' := σ) (k68 (X := X) (d := 13) h hc) (fun E1 c1 hm => k147 (X := X) (d := 13) h hm) ha
  exact b86_460 (j465 := i + 1) ⟨by rw [nI_add], by omega, hX1⟩ (j470 := i + 2) ⟨by rw [nI_add], by omega, hX1⟩ he1 (b86_474 (j479 := i + 1) ⟨by rw [nI_add], by omega, hX1⟩ (j484 := i + 2) ⟨by rw [nI_add], by omega, hX1⟩ he2 (b86_488 (fun _ => hn E1 ct2 _ l1 l2 h q1 q2) (fun z => absurd rfl z)))
theorem lc_15 {i : Nat} (hX1 : X.1 ≤ 1000) (hi : i + 4 ≤ X.1) (h : WF σ) (hc : CA σ (zDm E) ct) (ha : MA σ ct) (hn : ∀ E1 ct1 s1, E.1 ≤ E1.1 → E1.1 ≤ E.1 + 1 → WF s1 → CA s1 (zDm E1) ct1 → MA s1 ct1 → RUN X (EV X 20) 86 LE 828 [.retAddr 4, .ref 0, .ref 33, .int (nI i)] [] (mk (zDm E1) ct1)) : RUN X (EV X 20) 86 LE 493 [.retAddr 4, .ref 0, .ref 33, .int (nI i)] [] (mk (zDm E) ct) := by
  obtain ⟨v1, v2, E1, ct1, ct2, he1, he2, rfl, rfl, l1, l2, q1, q2⟩ := law_two (X := X) (E := E) (ct := ct) (σ := σ) (m := 70) (mM := 150) (args := []) (P1 := (fun v => v = some (.int (f70 σ)))) (P2 := (fun v => v = some (.int (f70 σ)))) (σ' := σ) (k70 (X := X) (d := 13) h hc) (fun E1 c1 hm => k150 (X := X) (d := 13) h hm) ha
  exact b86_493  he1 (b86_497  he2 (b86_501 (fun _ => hn E1 ct2 _ l1 l2 h q1 q2) (fun z => absurd rfl z)))
theorem lc_16 {i : Nat} (hX1 : X.1 ≤ 1000) (hi : i + 4 ≤ X.1) (h : WF σ) (hc : CA σ (zDm E) ct) (ha : MA σ ct) (hn : ∀ E1 ct1 s1, E.1 ≤ E1.1 → E1.1 ≤ E.1 + 1 → WF s1 → CA s1 (zDm E1) ct1 → MA s1 ct1 → RUN X (EV X 20) 86 LE 828 [.retAddr 4, .ref 0, .ref 33, .int (nI i)] [] (mk (zDm E1) ct1)) : RUN X (EV X 20) 86 LE 506 [.retAddr 4, .ref 0, .ref 33, .int (nI i)] [] (mk (zDm E) ct) := by
  obtain ⟨v1, v2, E1, ct1, ct2, he1, he2, p1, p2, l1, l2, q1, q2⟩ := law_two (X := X) (E := E) (ct := ct) (σ := σ) (m := 71) (mM := 151) (args := [.int (X.2 (i + 1))]) (P1 := (LQ σ false (X.2 (i + 1)))) (P2 := (LQ σ false (X.2 (i + 1)))) (σ' := σ) (k71 (X := X) (d := 6) h hc) (fun E1 c1 hm => k151 (X := X) (d := 10) h hm) ha
  have e := LQ.one h p1 p2
  subst e
  obtain ⟨x, rfl⟩ : ∃ x, v1 = some (.int x) := by
    rcases p1 with ⟨-, q⟩ | ⟨-, r, -, q⟩
    · exact ⟨_, q⟩
    · exact ⟨_, q⟩
  exact b86_506 (j511 := i + 1) ⟨by rw [nI_add], by omega, hX1⟩ he1 (b86_515 (j520 := i + 1) ⟨by rw [nI_add], by omega, hX1⟩ he2 (b86_524 (fun _ => hn E1 ct2 _ l1 l2 h q1 q2) (fun z => absurd rfl z)))
theorem lc_17 {i : Nat} (hX1 : X.1 ≤ 1000) (hi : i + 4 ≤ X.1) (h : WF σ) (hc : CA σ (zDm E) ct) (ha : MA σ ct) (hn : ∀ E1 ct1 s1, E.1 ≤ E1.1 → E1.1 ≤ E.1 + 1 → WF s1 → CA s1 (zDm E1) ct1 → MA s1 ct1 → RUN X (EV X 20) 86 LE 828 [.retAddr 4, .ref 0, .ref 33, .int (nI i)] [] (mk (zDm E1) ct1)) : RUN X (EV X 20) 86 LE 529 [.retAddr 4, .ref 0, .ref 33, .int (nI i)] [] (mk (zDm E) ct) := by
  obtain ⟨v1, v2, E1, ct1, ct2, he1, he2, p1, p2, l1, l2, q1, q2⟩ := law_two (X := X) (E := E) (ct := ct) (σ := σ) (m := 80) (mM := 155) (args := [.int (X.2 (i + 1))]) (P1 := (LQ σ true (X.2 (i + 1)))) (P2 := (LQ σ true (X.2 (i + 1)))) (σ' := σ) (k80 (X := X) (d := 6) h hc) (fun E1 c1 hm => k155 (X := X) (d := 10) h hm) ha
  have e := LQ.one h p1 p2
  subst e
  obtain ⟨x, rfl⟩ : ∃ x, v1 = some (.int x) := by
    rcases p1 with ⟨-, q⟩ | ⟨-, r, -, q⟩
    · exact ⟨_, q⟩
    · exact ⟨_, q⟩
  exact b86_529 (j534 := i + 1) ⟨by rw [nI_add], by omega, hX1⟩ he1 (b86_538 (j543 := i + 1) ⟨by rw [nI_add], by omega, hX1⟩ he2 (b86_547 (fun _ => hn E1 ct2 _ l1 l2 h q1 q2) (fun z => absurd rfl z)))
theorem lc_18 {i : Nat} (hX1 : X.1 ≤ 1000) (hi : i + 4 ≤ X.1) (h : WF σ) (hc : CA σ (zDm E) ct) (ha : MA σ ct) (hn : ∀ E1 ct1 s1, E.1 ≤ E1.1 → E1.1 ≤ E.1 + 1 → WF s1 → CA s1 (zDm E1) ct1 → MA s1 ct1 → RUN X (EV X 20) 86 LE 828 [.retAddr 4, .ref 0, .ref 33, .int (nI i)] [] (mk (zDm E1) ct1)) : RUN X (EV X 20) 86 LE 552 [.retAddr 4, .ref 0, .ref 33, .int (nI i)] [] (mk (zDm E) ct) := by
  obtain ⟨v1, v2, E1, ct1, ct2, he1, he2, rfl, rfl, l1, l2, q1, q2⟩ := law_two (X := X) (E := E) (ct := ct) (σ := σ) (m := 82) (mM := 156) (args := [.int (X.2 (i + 1))]) (P1 := (fun v => v = some (.int (f82 σ (X.2 (i + 1)))))) (P2 := (fun v => v = some (.int (f82 σ (X.2 (i + 1)))))) (σ' := σ) (k82 (X := X) (d := 14) h hc) (fun E1 c1 hm => k156 (X := X) (d := 15) h hm) ha
  exact b86_552 (j557 := i + 1) ⟨by rw [nI_add], by omega, hX1⟩ he1 (b86_561 (j566 := i + 1) ⟨by rw [nI_add], by omega, hX1⟩ he2 (b86_570 (fun _ => hn E1 ct2 _ l1 l2 h q1 q2) (fun z => absurd rfl z)))
theorem lc_19 {i : Nat} (hX1 : X.1 ≤ 1000) (hi : i + 4 ≤ X.1) (h : WF σ) (hc : CA σ (zDm E) ct) (ha : MA σ ct) (hn : ∀ E1 ct1 s1, E.1 ≤ E1.1 → E1.1 ≤ E.1 + 1 → WF s1 → CA s1 (zDm E1) ct1 → MA s1 ct1 → RUN X (EV X 20) 86 LE 828 [.retAddr 4, .ref 0, .ref 33, .int (nI i)] [] (mk (zDm E1) ct1)) : RUN X (EV X 20) 86 LE 575 [.retAddr 4, .ref 0, .ref 33, .int (nI i)] [] (mk (zDm E) ct) := by
  obtain ⟨v1, v2, E1, ct1, ct2, he1, he2, rfl, rfl, l1, l2, q1, q2⟩ := law_two (X := X) (E := E) (ct := ct) (σ := σ) (m := 83) (mM := 157) (args := [.int (X.2 (i + 1)), .int (X.2 (i + 2))]) (P1 := (fun v => v = some (.int (g83 σ (X.2 (i + 1)) (X.2 (i + 2))).1))) (P2 := (fun v => v = some (.int (g83 σ (X.2 (i + 1)) (X.2 (i + 2))).1))) (σ' := (g83 σ (X.2 (i + 1)) (X.2 (i + 2))).2) (k83 (X := X) (d := 19) h hc) (fun E1 c1 hm => k157 (X := X) (d := 18) h hm) ha
  exact b86_575 (j580 := i + 1) ⟨by rw [nI_add], by omega, hX1⟩ (j585 := i + 2) ⟨by rw [nI_add], by omega, hX1⟩ he1 (b86_589 (j594 := i + 1) ⟨by rw [nI_add], by omega, hX1⟩ (j599 := i + 2) ⟨by rw [nI_add], by omega, hX1⟩ he2 (b86_603 (fun _ => hn E1 ct2 _ l1 l2 (WF_83 h) q1 q2) (fun z => absurd rfl z)))
theorem lc_20 {i : Nat} (hX1 : X.1 ≤ 1000) (hi : i + 4 ≤ X.1) (h : WF σ) (hc : CA σ (zDm E) ct) (ha : MA σ ct) (hn : ∀ E1 ct1 s1, E.1 ≤ E1.1 → E1.1 ≤ E.1 + 1 → WF s1 → CA s1 (zDm E1) ct1 → MA s1 ct1 → RUN X (EV X 20) 86 LE 828 [.retAddr 4, .ref 0, .ref 33, .int (nI i)] [] (mk (zDm E1) ct1)) : RUN X (EV X 20) 86 LE 608 [.retAddr 4, .ref 0, .ref 33, .int (nI i)] [] (mk (zDm E) ct) := by
  obtain ⟨v1, v2, E1, ct1, ct2, he1, he2, rfl, rfl, l1, l2, q1, q2⟩ := law_two (X := X) (E := E) (ct := ct) (σ := σ) (m := 84) (mM := 158) (args := []) (P1 := (fun v => v = some (.int (g84 σ).1))) (P2 := (fun v => v = some (.int (g84 σ).1))) (σ' := (g84 σ).2) (k84 (X := X) (d := 19) h hc) (fun E1 c1 hm => k158 (X := X) (d := 19) hm) ha
  exact b86_608  he1 (b86_612  he2 (b86_616 (fun _ => hn E1 ct2 _ l1 l2 (WF_84 h) q1 q2) (fun z => absurd rfl z)))
theorem lc_21 {i : Nat} (hX1 : X.1 ≤ 1000) (hi : i + 4 ≤ X.1) (h : WF σ) (hc : CA σ (zDm E) ct) (ha : MA σ ct) (hn : ∀ E1 ct1 s1, E.1 ≤ E1.1 → E1.1 ≤ E.1 + 1 → WF s1 → CA s1 (zDm E1) ct1 → MA s1 ct1 → RUN X (EV X 20) 86 LE 828 [.retAddr 4, .ref 0, .ref 33, .int (nI i)] [] (mk (zDm E1) ct1)) : RUN X (EV X 20) 86 LE 621 [.retAddr 4, .ref 0, .ref 33, .int (nI i)] [] (mk (zDm E) ct) := by
  obtain ⟨v1, v2, E1, ct1, ct2, he1, he2, rfl, rfl, l1, l2, q1, q2⟩ := law_two (X := X) (E := E) (ct := ct) (σ := σ) (m := 85) (mM := 159) (args := [.int (X.2 (i + 1))]) (P1 := (fun v => v = some (.int (f85 σ (X.2 (i + 1)))))) (P2 := (fun v => v = some (.int (f85 σ (X.2 (i + 1)))))) (σ' := σ) (k85 (X := X) (d := 13) h hc) (fun E1 c1 hm => k159 (X := X) (d := 13) h hm) ha
  exact b86_621 (j626 := i + 1) ⟨by rw [nI_add], by omega, hX1⟩ he1 (b86_630 (j635 := i + 1) ⟨by rw [nI_add], by omega, hX1⟩ he2 (b86_639 (fun _ => hn E1 ct2 _ l1 l2 h q1 q2) (fun z => absurd rfl z)))
theorem lc_22 {i : Nat} (hX1 : X.1 ≤ 1000) (hi : i + 4 ≤ X.1) (h : WF σ) (hc : CA σ (zDm E) ct) (ha : MA σ ct) (hn : ∀ E1 ct1 s1, E.1 ≤ E1.1 → E1.1 ≤ E.1 + 1 → WF s1 → CA s1 (zDm E1) ct1 → MA s1 ct1 → RUN X (EV X 20) 86 LE 828 [.retAddr 4, .ref 0, .ref 33, .int (nI i)] [] (mk (zDm E1) ct1)) : RUN X (EV X 20) 86 LE 644 [.retAddr 4, .ref 0, .ref 33, .int (nI i)] [] (mk (zDm E) ct) := by
  obtain ⟨v1, v2, E1, ct1, ct2, he1, he2, rfl, rfl, l1, l2, q1, q2⟩ := law_two (X := X) (E := E) (ct := ct) (σ := σ) (m := 89) (mM := 162) (args := [.int (X.2 (i + 1))]) (P1 := (fun v => v = some (.int (f89 σ (X.2 (i + 1)))))) (P2 := (fun v => v = some (.int (f89 σ (X.2 (i + 1)))))) (σ' := σ) (k89 (X := X) (d := 13) h hc) (fun E1 c1 hm => k162 (X := X) (d := 13) h hm) ha
  exact b86_644 (j649 := i + 1) ⟨by rw [nI_add], by omega, hX1⟩ he1 (b86_653 (j658 := i + 1) ⟨by rw [nI_add], by omega, hX1⟩ he2 (b86_662 (fun _ => hn E1 ct2 _ l1 l2 h q1 q2) (fun z => absurd rfl z)))
theorem lc_23 {i : Nat} (hX1 : X.1 ≤ 1000) (hi : i + 4 ≤ X.1) (h : WF σ) (hc : CA σ (zDm E) ct) (ha : MA σ ct) (hn : ∀ E1 ct1 s1, E.1 ≤ E1.1 → E1.1 ≤ E.1 + 1 → WF s1 → CA s1 (zDm E1) ct1 → MA s1 ct1 → RUN X (EV X 20) 86 LE 828 [.retAddr 4, .ref 0, .ref 33, .int (nI i)] [] (mk (zDm E1) ct1)) : RUN X (EV X 20) 86 LE 667 [.retAddr 4, .ref 0, .ref 33, .int (nI i)] [] (mk (zDm E) ct) := by
  obtain ⟨v1, v2, E1, ct1, ct2, he1, he2, rfl, rfl, l1, l2, q1, q2⟩ := law_two (X := X) (E := E) (ct := ct) (σ := σ) (m := 90) (mM := 163) (args := [.int (X.2 (i + 1))]) (P1 := (fun v => v = some (.int (f90 σ (X.2 (i + 1)))))) (P2 := (fun v => v = some (.int (f90 σ (X.2 (i + 1)))))) (σ' := σ) (k90 (X := X) (d := 13) h hc) (fun E1 c1 hm => k163 (X := X) (d := 13) h hm) ha
  exact b86_667 (j672 := i + 1) ⟨by rw [nI_add], by omega, hX1⟩ he1 (b86_676 (j681 := i + 1) ⟨by rw [nI_add], by omega, hX1⟩ he2 (b86_685 (fun _ => hn E1 ct2 _ l1 l2 h q1 q2) (fun z => absurd rfl z)))
theorem lc_24 {i : Nat} (hX1 : X.1 ≤ 1000) (hi : i + 4 ≤ X.1) (h : WF σ) (hc : CA σ (zDm E) ct) (ha : MA σ ct) (hn : ∀ E1 ct1 s1, E.1 ≤ E1.1 → E1.1 ≤ E.1 + 1 → WF s1 → CA s1 (zDm E1) ct1 → MA s1 ct1 → RUN X (EV X 20) 86 LE 828 [.retAddr 4, .ref 0, .ref 33, .int (nI i)] [] (mk (zDm E1) ct1)) : RUN X (EV X 20) 86 LE 690 [.retAddr 4, .ref 0, .ref 33, .int (nI i)] [] (mk (zDm E) ct) := by
  obtain ⟨v1, v2, E1, ct1, ct2, he1, he2, rfl, rfl, l1, l2, q1, q2⟩ := law_two (X := X) (E := E) (ct := ct) (σ := σ) (m := 91) (mM := 164) (args := [.int (X.2 (i + 1))]) (P1 := (fun v => v = some (.int (f91 σ (X.2 (i + 1)))))) (P2 := (fun v => v = some (.int (f91 σ (X.2 (i + 1)))))) (σ' := σ) (k91 (X := X) (d := 13) h hc) (fun E1 c1 hm => k164 (X := X) (d := 13) h hm) ha
  exact b86_690 (j695 := i + 1) ⟨by rw [nI_add], by omega, hX1⟩ he1 (b86_699 (j704 := i + 1) ⟨by rw [nI_add], by omega, hX1⟩ he2 (b86_708 (fun _ => hn E1 ct2 _ l1 l2 h q1 q2) (fun z => absurd rfl z)))
theorem lc_25 {i : Nat} (hX1 : X.1 ≤ 1000) (hi : i + 4 ≤ X.1) (h : WF σ) (hc : CA σ (zDm E) ct) (ha : MA σ ct) (hn : ∀ E1 ct1 s1, E.1 ≤ E1.1 → E1.1 ≤ E.1 + 1 → WF s1 → CA s1 (zDm E1) ct1 → MA s1 ct1 → RUN X (EV X 20) 86 LE 828 [.retAddr 4, .ref 0, .ref 33, .int (nI i)] [] (mk (zDm E1) ct1)) : RUN X (EV X 20) 86 LE 713 [.retAddr 4, .ref 0, .ref 33, .int (nI i)] [] (mk (zDm E) ct) := by
  obtain ⟨v1, v2, E1, ct1, ct2, he1, he2, rfl, rfl, l1, l2, q1, q2⟩ := law_two (X := X) (E := E) (ct := ct) (σ := σ) (m := 93) (mM := 166) (args := [.int (X.2 (i + 1))]) (P1 := (fun v => v = some (.int (f93 σ (X.2 (i + 1)))))) (P2 := (fun v => v = some (.int (f93 σ (X.2 (i + 1)))))) (σ' := σ) (k93 (X := X) (d := 13) h hc) (fun E1 c1 hm => k166 (X := X) (d := 13) h hm) ha
  exact b86_713 (j718 := i + 1) ⟨by rw [nI_add], by omega, hX1⟩ he1 (b86_722 (j727 := i + 1) ⟨by rw [nI_add], by omega, hX1⟩ he2 (b86_731 (fun _ => hn E1 ct2 _ l1 l2 h q1 q2) (fun z => absurd rfl z)))
theorem lc_26 {i : Nat} (hX1 : X.1 ≤ 1000) (hi : i + 4 ≤ X.1) (h : WF σ) (hc : CA σ (zDm E) ct) (ha : MA σ ct) (hn : ∀ E1 ct1 s1, E.1 ≤ E1.1 → E1.1 ≤ E.1 + 1 → WF s1 → CA s1 (zDm E1) ct1 → MA s1 ct1 → RUN X (EV X 20) 86 LE 828 [.retAddr 4, .ref 0, .ref 33, .int (nI i)] [] (mk (zDm E1) ct1)) : RUN X (EV X 20) 86 LE 736 [.retAddr 4, .ref 0, .ref 33, .int (nI i)] [] (mk (zDm E) ct) := by
  obtain ⟨v1, v2, E1, ct1, ct2, he1, he2, rfl, rfl, l1, l2, q1, q2⟩ := law_two (X := X) (E := E) (ct := ct) (σ := σ) (m := 95) (mM := 167) (args := [.int (X.2 (i + 1)), .int (X.2 (i + 2)), .int (X.2 (i + 3))]) (P1 := (fun v => v = some (.int (f95 σ (X.2 (i + 1)) (X.2 (i + 2)) (X.2 (i + 3)))))) (P2 := (fun v => v = some (.int (f95 σ (X.2 (i + 1)) (X.2 (i + 2)) (X.2 (i + 3)))))) (σ' := σ) (k95 (X := X) (d := 13) h hc) (fun E1 c1 hm => k167 (X := X) (d := 13) h hm) ha
  exact b86_736 (j741 := i + 1) ⟨by rw [nI_add], by omega, hX1⟩ (j746 := i + 2) ⟨by rw [nI_add], by omega, hX1⟩ (j751 := i + 3) ⟨by rw [nI_add], by omega, hX1⟩ he1 (b86_755 (j760 := i + 1) ⟨by rw [nI_add], by omega, hX1⟩ (j765 := i + 2) ⟨by rw [nI_add], by omega, hX1⟩ (j770 := i + 3) ⟨by rw [nI_add], by omega, hX1⟩ he2 (b86_774 (fun _ => hn E1 ct2 _ l1 l2 h q1 q2) (fun z => absurd rfl z)))
theorem lc_27 {i : Nat} (hX1 : X.1 ≤ 1000) (hi : i + 4 ≤ X.1) (h : WF σ) (hc : CA σ (zDm E) ct) (ha : MA σ ct) (hn : ∀ E1 ct1 s1, E.1 ≤ E1.1 → E1.1 ≤ E.1 + 1 → WF s1 → CA s1 (zDm E1) ct1 → MA s1 ct1 → RUN X (EV X 20) 86 LE 828 [.retAddr 4, .ref 0, .ref 33, .int (nI i)] [] (mk (zDm E1) ct1)) : RUN X (EV X 20) 86 LE 779 [.retAddr 4, .ref 0, .ref 33, .int (nI i)] [] (mk (zDm E) ct) := by
  obtain ⟨v1, v2, E1, ct1, ct2, he1, he2, rfl, rfl, l1, l2, q1, q2⟩ := law_two (X := X) (E := E) (ct := ct) (σ := σ) (m := 98) (mM := 168) (args := []) (P1 := (fun v => v = some (.int (g98 σ).1))) (P2 := (fun v => v = some (.int (g98 σ).1))) (σ' := (g98 σ).2) (k98 (X := X) (d := 17) h hc) (fun E1 c1 hm => k168 (X := X) (d := 18) h hm) ha
  exact b86_779  he1 (b86_783  he2 (b86_787 (fun _ => hn E1 ct2 _ l1 l2 (WF_98 h) q1 q2) (fun z => absurd rfl z)))
theorem lc_28 {i : Nat} (hX1 : X.1 ≤ 1000) (hi : i + 4 ≤ X.1) (h : WF σ) (hc : CA σ (zDm E) ct) (ha : MA σ ct) (hn : ∀ E1 ct1 s1, E.1 ≤ E1.1 → E1.1 ≤ E.1 + 1 → WF s1 → CA s1 (zDm E1) ct1 → MA s1 ct1 → RUN X (EV X 20) 86 LE 828 [.retAddr 4, .ref 0, .ref 33, .int (nI i)] [] (mk (zDm E1) ct1)) : RUN X (EV X 20) 86 LE 792 [.retAddr 4, .ref 0, .ref 33, .int (nI i)] [] (mk (zDm E) ct) := by
  obtain ⟨v1, v2, E1, ct1, ct2, he1, he2, rfl, rfl, l1, l2, q1, q2⟩ := law_two (X := X) (E := E) (ct := ct) (σ := σ) (m := 99) (mM := 169) (args := []) (P1 := (fun v => v = some (.int (g99 σ).1))) (P2 := (fun v => v = some (.int (g99 σ).1))) (σ' := (g99 σ).2) (k99 (X := X) (d := 17) h hc) (fun E1 c1 hm => k169 (X := X) (d := 18) h hm) ha
  exact b86_792  he1 (b86_796  he2 (b86_800 (fun _ => hn E1 ct2 _ l1 l2 (WF_99 h) q1 q2) (fun z => absurd rfl z)))
theorem lc_29 {i : Nat} (hX1 : X.1 ≤ 1000) (hi : i + 4 ≤ X.1) (h : WF σ) (hc : CA σ (zDm E) ct) (ha : MA σ ct) (hn : ∀ E1 ct1 s1, E.1 ≤ E1.1 → E1.1 ≤ E.1 + 1 → WF s1 → CA s1 (zDm E1) ct1 → MA s1 ct1 → RUN X (EV X 20) 86 LE 828 [.retAddr 4, .ref 0, .ref 33, .int (nI i)] [] (mk (zDm E1) ct1)) : RUN X (EV X 20) 86 LE 805 [.retAddr 4, .ref 0, .ref 33, .int (nI i)] [] (mk (zDm E) ct) := by
  obtain ⟨v1, v2, E1, ct1, ct2, he1, he2, rfl, rfl, l1, l2, q1, q2⟩ := law_two (X := X) (E := E) (ct := ct) (σ := σ) (m := 100) (mM := 170) (args := [.int (X.2 (i + 1))]) (P1 := (fun v => v = some (.int (f100 σ (X.2 (i + 1)))))) (P2 := (fun v => v = some (.int (f100 σ (X.2 (i + 1)))))) (σ' := σ) (k100 (X := X) (d := 17) h hc) (fun E1 c1 hm => k170 (X := X) (d := 18) h hm) ha
  exact b86_805 (j810 := i + 1) ⟨by rw [nI_add], by omega, hX1⟩ he1 (b86_814 (j819 := i + 1) ⟨by rw [nI_add], by omega, hX1⟩ he2 (b86_823 (fun _ => hn E1 ct2 _ l1 l2 h q1 q2) (fun z => absurd rfl z)))
theorem law_loop (hX : X.1 ≤ 256) : ∀ k i E ct σ, X.1 < i + 4 + 4 * k → i ≤ X.1 + 4 → E.1 + k ≤ 90 → WF σ → CA σ (zDm E) ct → MA σ ct → RUN X (EV X 20) 86 LE 18 [.retAddr 4, .ref 0, .ref 33, .int (nI i)] [] (mk (zDm E) ct) := by
  intro k
  induction k with
  | zero =>
    intro i E ct σ h1 h2 h3 h hc ha
    refine b86_18 (fun _ => law_end (by omega)) (fun z => absurd ?_ z)
    by_cases q : 4 ≤ X.1
    · rw [pk_sub q, zlt (by omega) (by omega)]; omega
    · have z2 : nI X.1 - nI 4 < 0 := pk_sneg (by omega) (by omega)
      exact Int32.lt_of_lt_of_le z2 (nI_pos' (by omega))
  | succ k ih =>
    intro i E ct σ h1 h2 h3 h hc ha
    by_cases q4 : i + 4 ≤ X.1
    · have hX1 : X.1 ≤ 1000 := by omega
      refine b86_18 (fun z => ?_) (fun _ => ?_)
      · rw [pk_sub (by omega), zlt (by omega) (by omega)] at z; omega
      have hn : ∀ E1 ct1 s1, E.1 ≤ E1.1 → E1.1 ≤ E.1 + 1 → WF s1 → CA s1 (zDm E1) ct1 → MA s1 ct1 → RUN X (EV X 20) 86 LE 828 [.retAddr 4, .ref 0, .ref 33, .int (nI i)] [] (mk (zDm E1) ct1) := fun E1 ct1 s1 l1 l2 w1 w2 w3 => by
        refine b86_828 ?_
        rw [nI_add]
        exact ih (i + 4) E1 ct1 s1 (by omega) (by omega) (by omega) w1 w2 w3
      refine b86_26 (j28 := i) (zix_nI (by omega) hX1) ?_
      obtain ⟨c, hc32, e⟩ := pk_andE (X.2 i) (m := nI 31) 5 (by decide)
      have hc32 : c < 32 := hc32
      have ek : (X.2 i &&& nI 31).toInt - 0 = (c : Int) := by rw [e, nI_toInt (by omega)]; omega
      by_cases q30 : c < 30
      · rcases (show c = 0 ∨ c = 1 ∨ c = 2 ∨ c = 3 ∨ c = 4 ∨ c = 5 ∨ c = 6 ∨ c = 7 ∨ c = 8 ∨ c = 9 ∨ c = 10 ∨ c = 11 ∨ c = 12 ∨ c = 13 ∨ c = 14 ∨ c = 15 ∨ c = 16 ∨ c = 17 ∨ c = 18 ∨ c = 19 ∨ c = 20 ∨ c = 21 ∨ c = 22 ∨ c = 23 ∨ c = 24 ∨ c = 25 ∨ c = 26 ∨ c = 27 ∨ c = 28 ∨ c = 29 by omega) with rfl | rfl | rfl | rfl | rfl | rfl | rfl | rfl | rfl | rfl | rfl | rfl | rfl | rfl | rfl | rfl | rfl | rfl | rfl | rfl | rfl | rfl | rfl | rfl | rfl | rfl | rfl | rfl | rfl | rfl
        · exact xsw_in (n := 0) ek rfl (lc_0 hX1 q4 h hc ha hn)
        · exact xsw_in (n := 1) ek rfl (lc_1 hX1 q4 h hc ha hn)
        · exact xsw_in (n := 2) ek rfl (lc_2 hX1 q4 h hc ha hn)
        · exact xsw_in (n := 3) ek rfl (lc_3 hX1 q4 h hc ha hn)
        · exact xsw_in (n := 4) ek rfl (lc_4 hX1 q4 h hc ha hn)
        · exact xsw_in (n := 5) ek rfl (lc_5 hX1 q4 h hc ha hn)
        · exact xsw_in (n := 6) ek rfl (lc_6 hX1 q4 h hc ha hn)
        · exact xsw_in (n := 7) ek rfl (lc_7 hX1 q4 h hc ha hn)
        · exact xsw_in (n := 8) ek rfl (lc_8 hX1 q4 h hc ha hn)
        · exact xsw_in (n := 9) ek rfl (lc_9 hX1 q4 h hc ha hn)
        · exact xsw_in (n := 10) ek rfl (lc_10 hX1 q4 h hc ha hn)
        · exact xsw_in (n := 11) ek rfl (lc_11 hX1 q4 h hc ha hn)
        · exact xsw_in (n := 12) ek rfl (lc_12 hX1 q4 h hc ha hn)
        · exact xsw_in (n := 13) ek rfl (lc_13 hX1 q4 h hc ha hn)
        · exact xsw_in (n := 14) ek rfl (lc_14 hX1 q4 h hc ha hn)
        · exact xsw_in (n := 15) ek rfl (lc_15 hX1 q4 h hc ha hn)
        · exact xsw_in (n := 16) ek rfl (lc_16 hX1 q4 h hc ha hn)
        · exact xsw_in (n := 17) ek rfl (lc_17 hX1 q4 h hc ha hn)
        · exact xsw_in (n := 18) ek rfl (lc_18 hX1 q4 h hc ha hn)
        · exact xsw_in (n := 19) ek rfl (lc_19 hX1 q4 h hc ha hn)
        · exact xsw_in (n := 20) ek rfl (lc_20 hX1 q4 h hc ha hn)
        · exact xsw_in (n := 21) ek rfl (lc_21 hX1 q4 h hc ha hn)
        · exact xsw_in (n := 22) ek rfl (lc_22 hX1 q4 h hc ha hn)
        · exact xsw_in (n := 23) ek rfl (lc_23 hX1 q4 h hc ha hn)
        · exact xsw_in (n := 24) ek rfl (lc_24 hX1 q4 h hc ha hn)
        · exact xsw_in (n := 25) ek rfl (lc_25 hX1 q4 h hc ha hn)
        · exact xsw_in (n := 26) ek rfl (lc_26 hX1 q4 h hc ha hn)
        · exact xsw_in (n := 27) ek rfl (lc_27 hX1 q4 h hc ha hn)
        · exact xsw_in (n := 28) ek rfl (lc_28 hX1 q4 h hc ha hn)
        · exact xsw_in (n := 29) ek rfl (lc_29 hX1 q4 h hc ha hn)
      · exact xsw_out (Or.inr (by rw [ek]; show (30 : Int) ≤ _; omega)) (hn E ct σ (Nat.le_refl _) (Nat.le_succ _) h hc ha)
    · refine b86_18 (fun _ => law_end (by omega)) (fun z => absurd ?_ z)
      by_cases q : 4 ≤ X.1
      · rw [pk_sub q, zlt (by omega) (by omega)]; omega
      · have z2 : nI X.1 - nI 4 < 0 := pk_sneg (by omega) (by omega)
        exact Int32.lt_of_lt_of_le z2 (nI_pos' (by omega))
theorem hZ_nil : ((0, 0, fun _ => none) : xHp) = hX hZ [] 0 := by
  refine Prod.ext rfl (Prod.ext rfl (funext fun a => ?_))
  show none = if a < 0 then none else ([] : List xC)[a - 0]?
  rw [if_neg (Nat.not_lt_zero _)]
  rfl
theorem law_run (hX : X.1 ≤ 256) : RUN X (EV X 20) 86 LE 0 (xini 86 [.retAddr 4]) [] (0, 0, fun _ => none) := by
  rw [hZ_nil]
  obtain ⟨ct1, he1, hc1⟩ := mk0 (X := X) (d := 14)
  obtain ⟨ct2, he2, hc2, hm2⟩ := mk1 (X := X) (d := 16) hc1
  refine l_new (a := 0) c86_0 rfl rfl <| s_dup c86_3 rfl <| s_init (args := []) (b := 0) (r := [.ref 0]) c86_4 rfl rfl (Nat.le_of_ble_eq_true rfl) he1 <| s_astore_n c86_7 (Nat.le_of_ble_eq_true rfl) True.intro <| ?_
  rw [hX_nil]
  refine l_new (a := 33) c86_8 rfl rfl <| s_dup c86_11 rfl <| s_init (args := []) (b := 33) (r := [.ref 33]) c86_12 rfl rfl (Nat.le_of_ble_eq_true rfl) he2 <| s_astore_n c86_15 (Nat.le_of_ble_eq_true rfl) True.intro <| ?_
  exact b86_16 (law_loop hX 70 0 D0 ct2 σ0 (by omega) (by omega) (by decide) WF0 hc2 hm2)
end
theorem law_EV (L : Nat) (xs : Nat → Int32) (hL : L ≤ 256) : ∃ (d : Nat) (h' : xHp), d ≤ 2000 ∧ h'.1 ≤ 600000 ∧ h'.2.1 ≤ 7302250 ∧ EV (L, xs) (d + 1) 86 [.retAddr 4] (0, 0, fun _ => none) (some (.int 1)) h' := by
  obtain ⟨v, h', he, rfl, h1, h2⟩ := EVP_of (Nat.le_of_ble_eq_true rfl) (law_run (X := (L, xs)) hL)
  exact ⟨20, h', by decide, h1, h2, he⟩
