/-! Calls; and: what the reader of code says, the machine does. -/
theorem xws_in {m2 : Nat} (hw : Cond.code (xmn m2) (xmb m2) (xml m2) (xmr m2) ∈ xTB) : GoodIn xTB (xws m2) := by
  intro w h
  rcases List.mem_cons.mp h with rfl | h
  · exact xTB_good _ hw
  · exact xTB_good _ h
theorem x_hsize {D : va_G} {tc : Nat → ClassId} {E : Nat → Nat} {base : Nat} {h : xHp} {H : Heap} (hP : va_P D xcls (xw E base tc h) H) (hz : H.size ≤ base + h.1) (hge : base ≤ H.size) : H.size = base + h.1 := by
  by_cases h1 : h.1 = 0
  · omega
  · have e : (xw E base tc h)[h.1 - 1]? = some (base + (h.1 - 1), xE E base tc ((hg h (h.1 - 1)).getD (.inr (99, [])))) := by
      unfold xw
      rw [List.getElem?_map, List.getElem?_range (by omega)]
      rfl
    have : base + (h.1 - 1) < H.size := (hP _ _ e).lt
    omega
theorem xv_list {E : Nat → Nat} {base : Nat} {v : Option Value} {r : List Value} : (v.toList ++ r).map (xc E base) = (v.map (xc E base)).toList ++ r.map (xc E base) := by cases v <;> rfl
theorem x_room9 {E : Nat → Nat} {base : Nat} {r : List Value} {g : JFrame} (hcat : xcat r ≤ 8) (hz : g.monitorRoom = 0) : 2 * g.monitorRoom + ((r.map (xc E base)).map fun v => v.category).sum ≤ 8 := by
  rw [xc_sum, hz]
  omega
section XS3
variable {p : Program} {l : Launch} {e : Env} {R : Room} {s : State} {mI : MethodId} {args : Array Value} {below : List Frame} {meth : Method} {c : Code} {D : va_G} {tc : Nat → ClassId} {E : Nat → Nat} {X : Nat × (Nat → Int32)} {base m d : Nat} {h0 hf : xHp} {Q : State → Prop}
variable {pc : Nat} {ls st : List Value} {h : xHp}
theorem x_called {H : Heap} {locs : List Loc} {cells slots mc ms : Nat} {la : Array Slot} {st0 rest : List Value} {v : Option Value} {h1 : xHp} {av : Array Value} (hr : va_Run p l e R s mI args below meth c H locs cells slots mc ms (F0 mI pc la st0) rest (xQc D tc E base v h1 av) (xA base)) (hS : va_S (xA base) s.heap H locs)
    (kk : ∀ (H1 : Heap) (locs1 : List Loc), va_P D xcls (xw E base tc h1) H1 → va_S (xA base) s.heap H1 locs1 → W p l e R s mI args below meth c H1 locs1 (cells + mc) (slots + ms) Q (F0 mI (pc + 3) la ((v.map (xc E base)).toList ++ rest))) : W p l e R s mI args below meth c H locs cells slots Q (F0 mI pc la st0) := by
  intro T hT X
  obtain ⟨v', st₀, t, T', L, hh0, X', hL, e1, e2, ⟨⟨hoc, hz, hP⟩, hF⟩, st⟩ := hr T hT X
  cases hoc
  have hF1 := hF.1
  have hF2 := hF.2
  rw [hh0] at hF1 hF2
  obtain ⟨t2, a1, b1⟩ := kk T'.heap (locs ++ L) (by rw [e1]; exact hP) ⟨Nat.le_trans hS.1 (by rw [e1]; exact hF1), fun q k1 k2 => by rw [e1, hF2 q (Nat.lt_of_lt_of_le k1 hS.1) k2]; exact hS.2.1 q k1 k2, fun q hq => by
      rcases List.mem_append.mp hq with h | h
      · exact hS.2.2 q h
      · exact hL q h⟩ T' rfl X'
  exact ⟨t2, st t2 a1, b1⟩
theorem x_blind {av : List Value} : FrameBlind (va_Pc av (xWd D tc E X base h)) := fun a U g mk q => ⟨q.1, q.2.1, q.2.2.1, va_K.moved (u := U) (U := U.calling g mk a) (Vm.Alike.refl U.vm) q.2.2.2.1, xX.go (s := U) (U := U.calling g mk a) (State.WarmedH.refl U) (fun _ _ _ => rfl) q.2.2.2.2⟩
theorem x_pre {av : List Value} {H : Heap} {locs : List Loc} (hK : va_K D xcls (xtys tc) s) (hX : xX E X base s s.heap) (hH : H.size = base + h.1) (hP : va_P D xcls (xw E base tc h) H) (hS : va_S (xA base) s.heap H locs) (U : State) (hU : U.heap = H) (hW : s.WarmedH U.vm) : va_Pc av (xWd D tc E X base h) av.toArray U :=
  ⟨rfl, by rw [hU]; exact hH, by rw [hU]; exact hP, va_K.moved hW.alike hK, by rw [hU]; exact xX.go hW hS.2.1 hX⟩
/-- what a call needs to know of its callee -/
def xCl (l : Launch) (D : va_G) (tc : Nat → ClassId) (E : Nat → Nat) (X : Nat × (Nat → Int32)) (base d : Nat) : Prop := ∀ (m : Nat) (av : List Value) (h : xHp) (v : Option Value) (h' : xHp), EV X d m av h v h' → xWF h → xMet l D tc E X base d m av h v h'
theorem okc_ex {m2 n wini wcode : Nat} (h : okc m2 n wini wcode = true) : Cond.initialized (xmn m2).cls ∈ xTB ∧ Cond.code (xmn m2) (xmb m2) (xml m2) (xmr m2) ∈ xTB ∧ (xmn m2).cls ≠ "java/lang/invoke/MethodHandle" ∧ (xmn m2).cls ≠ "java/lang/invoke/VarHandle" ∧ (parseMethodDescriptor (xmn m2).desc).map (fun d => d.parameters.length) = some n ∧ xml m2 ≤ 20 := by
  unfold okc at h
  simp only [Bool.and_eq_true, decide_eq_true_eq] at h
  obtain ⟨⟨⟨⟨⟨c1, c2⟩, c3⟩, c4⟩, c5⟩, c6⟩ := h
  exact ⟨okw_of c1, okw_of c2, c3, c4, c5, c6⟩
theorem x_virt {H : Heap} {locs : List Loc} {la : Array Slot} {idx m2 n nest wl bb wini wcode : Nat} {C : String} {b : Value} {ar r : List Value} {v : Option Value} {h1 : xHp} (Z : xCtx p R s mI args meth c D tc E X base m d h0 hf) (hd : decode (xmb m) pc = .ok (.invokevirtual idx, 3)) (hbb : xc E base b = .ref bb)
    (hl : okl (xmn m).cls idx m2 nest wl = true) (hi : Cond.instanceMethod (xmn m2) ∈ xTB) (hsel : Cond.selects (xmn m2).cls (xmn m2) (xmn m2) ∈ xTB) (hc : okc m2 n wini wcode = true) (hcls : (xmn m2).cls = C) (hrecv : ∃ cellB : Cell, H[bb]? = some cellB ∧ cellB.vm.isStatics = false ∧ s.vm.findClass C = some cellB.cls)
    (hM : xMet l D tc E X base d m2 (b :: ar) h v h1) (hlen : ar.length = n) (hcat : xcat r ≤ 8) (hHs : H.size = base + h.1) (hl' : xLV E base (xml m) ls la) (hP : va_P D xcls (xw E base tc h) H) (hS : va_S (xA base) s.heap H locs) (hle1 : h0.1 ≤ h.1 ∧ h.1 ≤ h1.1 ∧ h1.1 ≤ hf.1) (hle2 : h0.2.1 ≤ h.2.1 ∧ h.2.1 ≤ h1.2.1 ∧ h1.2.1 ≤ hf.2.1)
    (kk : ∀ (H1 : Heap) (locs1 : List Loc), va_P D xcls (xw E base tc h1) H1 → va_S (xA base) s.heap H1 locs1 → W p l e R s mI args below meth c H1 locs1 (h1.1 - h0.1) (h1.2.1 - h0.2.1) Q (F0 mI (pc + 3) la ((v.map (xc E base)).toList ++ r.map (xc E base)))) :
    W p l e R s mI args below meth c H locs (h.1 - h0.1) (h.2.1 - h0.2.1) Q (F0 mI pc la ((ar.map (xc E base)).reverse ++ .ref bb :: r.map (xc E base))) := by
  obtain ⟨hx, hb, hml, hown, hts, hin, hK, hX, hsz, hrc, hrs, hfr, hlo⟩ := Z
  obtain ⟨c1, c2, c3, c4, c5, c6⟩ := okc_ex hc
  subst hcls
  have hGI := xws_in c2
  have hM2 := hM
  unfold xMet at hM2
  rw [List.map_cons, hbb] at hM2
  have kk2 : ∀ (H1 : Heap) (locs1 : List Loc), va_P D xcls (xw E base tc h1) H1 → va_S (xA base) s.heap H1 locs1 → W p l e R s mI args below meth c H1 locs1 (h.1 - h0.1 + (h1.1 - h.1)) (h.2.1 - h0.2.1 + (h1.2.1 - h.2.1)) Q (F0 mI (pc + 3) la ((v.map (xc E base)).toList ++ r.map (xc E base))) := by
    intro H1 locs1 hP1 hS1
    rw [show h.1 - h0.1 + (h1.1 - h.1) = h1.1 - h0.1 by omega, show h.2.1 - h0.2.1 + (h1.2.1 - h.2.1) = h1.2.1 - h0.2.1 by omega]
    exact kk H1 locs1 hP1 hS1
  unfold okl at hl
  by_cases hne : nest = 0
  rotate_left
  · rw [if_neg hne] at hl
    have hnest := hX.2.2.2.2.2.2.2.2.2.1 _ _ _ _ (List.mem_of_getElem? (of_decide_eq_true hl))
    have hrun := va_runVN (e := e) (meth := meth) (below := below) (locs := locs) (cells := h.1 - h0.1) (slots := h.2.1 - h0.2.1) (C := (xmn m2).cls) (As := ar.map (xc E base)) (rest := r.map (xc E base)) (g := F0 mI pc la ((ar.map (xc E base)).reverse ++ .ref bb :: r.map (xc E base))) ⟨hx, hb, hml, hown, hts⟩ hM2
      ⟨va_cnB n hts hGI rfl rfl rfl hnest (hts _ c1) ⟨c3, c4, c5⟩ ⟨hfr, by show 8 + (xml m2 + 11) + 40 * d ≤ R.locals; omega⟩, hts _ hi, hts _ hsel⟩ ⟨x_blind, hrecv, fun U hU hW => x_pre hK hX hHs hP hS U hU hW⟩ rfl (by rw [List.length_map]; exact hlen) hl'.1 rfl (x_room9 hcat rfl) hd ⟨by omega, by omega⟩
    exact x_called hrun hS kk2
  rw [if_pos hne] at hl
  have hl := okw_of hl
  have hT : GoodIn xTB (wsV (xmn m).cls idx (xmn m2).cls (xmn m2) (xws m2)) := by
    intro w hw
    rcases List.mem_append.mp hw with hw | hw
    · simp only [List.mem_cons, List.not_mem_nil, or_false] at hw
      rcases hw with rfl | rfl | rfl | rfl
      · exact xTB_good _ hl
      · exact xTB_good _ hi
      · exact xTB_good _ hsel
      · exact xTB_good _ c1
    · exact hGI _ hw
  have hrun := va_runV (e := e) (meth := meth) (below := below) (locs := locs) (cells := h.1 - h0.1) (slots := h.2.1 - h0.2.1) (As := ar.map (xc E base)) (rest := r.map (xc E base)) (g := F0 mI pc la ((ar.map (xc E base)).reverse ++ .ref bb :: r.map (xc E base))) ⟨hx, hb, hml, hown, hts⟩ hM2
    (cwV n hts hT rfl rfl rfl ⟨rfl, c3, c4, c5⟩ ⟨hfr, by show 8 + (xml m2 + 11) + 40 * d ≤ R.locals; omega⟩) ⟨x_blind, hrecv, fun U hU hW => x_pre hK hX hHs hP hS U hU hW⟩ rfl (by rw [List.length_map]; exact hlen) hl'.1 rfl (x_room9 hcat rfl) hd ⟨by omega, by omega⟩
  exact x_called hrun hS kk2
theorem xs_virtual {idx m2 n nest wl wi wini wcode wsel : Nat} (hC : xCl l D tc E X base d) (Z : xCtx p R s mI args meth c D tc E X base m d h0 hf) (hd : decode (xmb m) pc = .ok (.invokevirtual idx, 3)) (hl : okl (xmn m).cls idx m2 nest wl = true) (hc : okc m2 n wini wcode = true) (hi : okw wi (.instanceMethod (xmn m2)) = true) (hsel : okw wsel (.selects (xmn m2).cls (xmn m2) (xmn m2)) = true) (hcls : (if xmc m2 = 8 then decide ((xmn m2).cls = "java/lang/String") else match xcls[xmc m2]? with
    | some (C, _, _) => decide ((xmn m2).cls = C)
    | none => false) = true)
    (hs : xv1 (st.drop n) fun b r => xcat r ≤ 8 ∧ (match b with
      | .ref a => xob (hg h a) (xmc m2) fun _ => True
      | .retAddr 0 => xmc m2 = 8
      | _ => False) ∧ ∃ v h1, EV X d m2 (b :: (st.take n).reverse) h v h1 ∧ xZ p l e R s mI args below meth c D tc E base m h0 hf Q (pc + 3) ls (v.toList ++ r) h1) : xZ p l e R s mI args below meth c D tc E base m h0 hf Q pc ls st h := by
  obtain ⟨b, r, est, hcat, hrecv, v, h1, hev, hs⟩ := xv1_ex hs
  obtain ⟨g1, g2, g3⟩ := EV_grows X d _ _ _ _ _ hev
  refine ⟨⟨Nat.le_trans g1 hs.1.1, Nat.le_trans g2 hs.1.2⟩, fun hwf q1 q2 H locs la hl' hP hS => x_size fun hz => ?_⟩
  have hlen : (st.take n).reverse.length = n := by
    have h9 : (st.drop n).length = r.length + 1 := by rw [est]; rfl
    rw [List.length_drop] at h9
    rw [List.length_reverse, List.length_take]
    omega
  have hsz := Z.2.2.2.2.2.2.2.2.1
  have hHs : H.size = base + h.1 := x_hsize hP (by omega) (by have := hS.1; omega)
  have estk : st.map (xc E base) = (((st.take n).reverse).map (xc E base)).reverse ++ (xc E base b :: r.map (xc E base)) := by
    rw [← List.map_cons, ← est, ← List.map_reverse, List.reverse_reverse, ← List.map_append, List.take_append_drop]
  rw [estk]
  have kk : ∀ (H1 : Heap) (locs1 : List Loc), va_P D xcls (xw E base tc h1) H1 → va_S (xA base) s.heap H1 locs1 → W p l e R s mI args below meth c H1 locs1 (h1.1 - h0.1) (h1.2.1 - h0.2.1) Q (F0 mI (pc + 3) la ((v.map (xc E base)).toList ++ r.map (xc E base))) := by
    intro H1 locs1 hP1 hS1
    have := hs.2 (g3 hwf) (Nat.le_trans q1 g1) (Nat.le_trans q2 g2) H1 locs1 la hl' hP1 hS1
    rw [xv_list] at this
    exact this
  have hM := hC _ _ _ _ _ hev hwf
  have hK := Z.2.2.2.2.2.2.1
  have hX := Z.2.2.2.2.2.2.2.1
  cases b with
  | ref a =>
    obtain ⟨fs, e1, -⟩ := xob_ex hrecv
    have ha := hwf.2 _ _ e1
    by_cases h8 : xmc m2 = 8
    · obtain ⟨r9, h9, -⟩ := hP a _ (xw_at (E := E) (base := base) (tc := tc) e1 ha)
      have h9 : xcls[xmc m2]? = some r9 := h9
      rw [h8] at h9
      cases h9
    · rw [if_neg h8] at hcls
      cases hq : xcls[xmc m2]? with
      | none => rw [hq] at hcls; cases hcls
      | some q =>
        obtain ⟨C, T, N⟩ := q
        rw [hq] at hcls
        exact x_virt (bb := base + a) Z hd rfl hl (okw_of hi) (okw_of hsel) hc (of_decide_eq_true hcls) (va_recv hK hP hq (xw_at (E := E) (base := base) (tc := tc) e1 ha)) hM hlen hcat hHs hl' hP hS ⟨q1, g1, hs.1.1⟩ ⟨q2, g2, hs.1.2⟩ kk
  | retAddr k =>
    match k, hrecv with
    | 0, hrecv =>
      have hrecv : xmc m2 = 8 := hrecv
      rw [if_pos hrecv] at hcls
      obtain ⟨cellB, o1, o2, o3, -⟩ := hX.2.2.2.1.kept (H1 := H) hS.2.1
      exact x_virt (bb := E 0) Z hd rfl hl (okw_of hi) (okw_of hsel) hc (of_decide_eq_true hcls) ⟨cellB, o1, o2, o3⟩ hM hlen hcat hHs hl' hP hS ⟨q1, g1, hs.1.1⟩ ⟨q2, g2, hs.1.2⟩ kk
    | k + 1, hrecv => exact hrecv.elim
  | _ => exact hrecv.elim
theorem xs_static {idx m2 n nest wl wst wini wcode : Nat} (hC : xCl l D tc E X base d) (Z : xCtx p R s mI args meth c D tc E X base m d h0 hf) (hd : decode (xmb m) pc = .ok (.invokestatic idx, 3)) (hl : okl (xmn m).cls idx m2 nest wl = true) (hc : okc m2 n wini wcode = true) (hst : okw wst (.static (xmn m2)) = true)
    (hs : xcat (st.drop n) ≤ 8 ∧ n ≤ st.length ∧ ∃ v h1, EV X d m2 (st.take n).reverse h v h1 ∧ xZ p l e R s mI args below meth c D tc E base m h0 hf Q (pc + 3) ls (v.toList ++ st.drop n) h1) : xZ p l e R s mI args below meth c D tc E base m h0 hf Q pc ls st h := by
  obtain ⟨hcat, hn, v, h1, hev, hs⟩ := hs
  obtain ⟨g1, g2, g3⟩ := EV_grows X d _ _ _ _ _ hev
  refine ⟨⟨Nat.le_trans g1 hs.1.1, Nat.le_trans g2 hs.1.2⟩, fun hwf q1 q2 H locs la hl' hP hS => x_size fun hz => ?_⟩
  have hlen : (st.take n).reverse.length = n := by
    rw [List.length_reverse, List.length_take]
    omega
  obtain ⟨hx, hb, hml, hown, hts, hin, hK, hX, hsz, hrc, hrs, hfr, hlo⟩ := Z
  have hHs : H.size = base + h.1 := x_hsize hP (by omega) (by have := hS.1; omega)
  have estk : st.map (xc E base) = (((st.take n).reverse).map (xc E base)).reverse ++ (st.drop n).map (xc E base) := by
    rw [← List.map_reverse, List.reverse_reverse, ← List.map_append, List.take_append_drop]
  rw [estk]
  obtain ⟨c1, c2, c3, c4, c5, c6⟩ := okc_ex hc
  have hM := hC _ _ _ _ _ hev hwf
  unfold xMet at hM
  have hGI := xws_in c2
  have w1 := hs.1.1
  have w2 := hs.1.2
  have kk : ∀ (H1 : Heap) (locs1 : List Loc), va_P D xcls (xw E base tc h1) H1 → va_S (xA base) s.heap H1 locs1 → W p l e R s mI args below meth c H1 locs1 (h.1 - h0.1 + (h1.1 - h.1)) (h.2.1 - h0.2.1 + (h1.2.1 - h.2.1)) Q (F0 mI (pc + 3) la ((v.map (xc E base)).toList ++ (st.drop n).map (xc E base))) := by
    intro H1 locs1 hP1 hS1
    have := hs.2 (g3 hwf) (Nat.le_trans q1 g1) (Nat.le_trans q2 g2) H1 locs1 la hl' hP1 hS1
    rw [xv_list] at this
    rw [show h.1 - h0.1 + (h1.1 - h.1) = h1.1 - h0.1 by omega, show h.2.1 - h0.2.1 + (h1.2.1 - h.2.1) = h1.2.1 - h0.2.1 by omega]
    exact this
  unfold okl at hl
  by_cases hne : nest = 0
  · rw [if_pos hne] at hl
    have hT : GoodIn xTB (va_wsS (xmn m).cls idx (xmn m2) (xws m2)) := by
      intro w hw
      rcases List.mem_append.mp hw with hw | hw
      · simp only [List.mem_cons, List.not_mem_nil, or_false] at hw
        rcases hw with rfl | rfl | rfl
        · exact xTB_good _ (okw_of hl)
        · exact xTB_good _ (okw_of hst)
        · exact xTB_good _ c1
      · exact hGI _ hw
    exact x_called (va_runS (As := ((st.take n).reverse).map (xc E base)) (rest := (st.drop n).map (xc E base)) ⟨hx, hb, hml, hown, hts⟩ hM (va_cwS n hts hT rfl rfl rfl ⟨c3, c4, c5⟩ ⟨hfr, by show 8 + (xml m2 + 11) + 40 * d ≤ R.locals; omega⟩) ⟨x_blind, fun U hU hW => x_pre hK hX hHs hP hS U hU hW⟩ rfl (by rw [List.length_map]; exact hlen) hl'.1 rfl (x_room9 hcat rfl) hd ⟨by omega, by omega⟩) hS kk
  · rw [if_neg hne] at hl
    have hnest := hX.2.2.2.2.2.2.2.2.2.1 _ _ _ _ (List.mem_of_getElem? (of_decide_eq_true hl))
    exact x_called (va_runSN (As := ((st.take n).reverse).map (xc E base)) (rest := (st.drop n).map (xc E base)) ⟨hx, hb, hml, hown, hts⟩ hM ⟨va_cnB n hts hGI rfl rfl rfl hnest (hts _ c1) ⟨c3, c4, c5⟩ ⟨hfr, by show 8 + (xml m2 + 11) + 40 * d ≤ R.locals; omega⟩, hts _ (okw_of hst), trivial⟩ ⟨x_blind, fun U hU hW => x_pre hK hX hHs hP hS U hU hW⟩ rfl (by rw [List.length_map]; exact hlen) hl'.1 rfl (x_room9 hcat rfl) hd ⟨by omega, by omega⟩) hS kk
theorem xs_max {idx wl wst wini wcode : Nat} (Z : xCtx p R s mI args meth c D tc E X base m d h0 hf) (hd : decode (xmb m) pc = .ok (.invokestatic idx, 3)) (hk : (okw wl (.methodLink (xmn m).cls idx Lib.Math.max.name) && okw wst (.static Lib.Math.max.name) && okw wini (.initialized "java/lang/Math") && okw wcode (.code Lib.Math.max.name Lib.Math.max.code 2 (some .int))) = true)
    (hs : xi2 st fun x y r => xcat r ≤ 8 ∧ xZ p l e R s mI args below meth c D tc E base m h0 hf Q (pc + 3) ls (.int (if x < y then y else x) :: r) h) : xZ p l e R s mI args below meth c D tc E base m h0 hf Q pc ls st h := by
  obtain ⟨x, y, r, rfl, hcat, hq⟩ := xi2_ex hs
  clear hs
  obtain ⟨hx, hb, hml, hown, hts, hin, hK, hX, hsz, hrc, hrs, hfr, hlo⟩ := Z
  simp only [Bool.and_eq_true] at hk
  obtain ⟨⟨⟨k1, k2⟩, k3⟩, k4⟩ := hk
  have w1 := hq.1.1
  have w2 := hq.1.2
  refine ⟨hq.1, fun hwf q1 q2 H locs la hl hP hS => ?_⟩
  exact va_mmax (rest := r.map (xc E base)) hx hb (hml.trans hl.1.symm) hown (hts _ (okw_of k1)) (hts _ (okw_of k2)) (hts _ (okw_of k3)) (hts _ (okw_of k4)) (by omega) (by rw [xc_sum]; omega) (by omega) (by omega) hd (hq.2 hwf q1 q2 H locs la hl hP hS)
theorem xs_abs {idx wl wst wini wcode : Nat} (Z : xCtx p R s mI args meth c D tc E X base m d h0 hf) (hd : decode (xmb m) pc = .ok (.invokestatic idx, 3)) (hk : (okw wl (.methodLink (xmn m).cls idx Lib.Math.abs.name) && okw wst (.static Lib.Math.abs.name) && okw wini (.initialized "java/lang/Math") && okw wcode (.code Lib.Math.abs.name Lib.Math.abs.code 1 (some .int))) = true)
    (hs : xi1 st fun x r => xcat r ≤ 8 ∧ xZ p l e R s mI args below meth c D tc E base m h0 hf Q (pc + 3) ls (.int (if 0 ≤ x then x else 0 - x) :: r) h) : xZ p l e R s mI args below meth c D tc E base m h0 hf Q pc ls st h := by
  obtain ⟨x, r, rfl, hcat, hq⟩ := xi1_ex hs
  clear hs
  obtain ⟨hx, hb, hml, hown, hts, hin, hK, hX, hsz, hrc, hrs, hfr, hlo⟩ := Z
  simp only [Bool.and_eq_true] at hk
  obtain ⟨⟨⟨k1, k2⟩, k3⟩, k4⟩ := hk
  have w1 := hq.1.1
  have w2 := hq.1.2
  refine ⟨hq.1, fun hwf q1 q2 H locs la hl hP hS => ?_⟩
  exact va_mabs (rest := r.map (xc E base)) hx hb (hml.trans hl.1.symm) hown (hts _ (okw_of k1)) (hts _ (okw_of k2)) (hts _ (okw_of k3)) (hts _ (okw_of k4)) (by omega) (by rw [xc_sum]; omega) (by omega) (by omega) hd (hq.2 hwf q1 q2 H locs la hl hP hS)
theorem xs_init {idx m2 n nest wl wi wini wcode : Nat} (hC : xCl l D tc E X base d) (Z : xCtx p R s mI args meth c D tc E X base m d h0 hf) (hd : decode (xmb m) pc = .ok (.invokespecial idx, 3)) (hl : okl (xmn m).cls idx m2 nest wl = true) (hc : okc m2 n wini wcode = true) (hi : okw wi (.instanceMethod (xmn m2)) = true) (hnm : (xmn m2).name = "<init>") (hret : xmr m2 = none)
    (hs : xr1 (st.drop n) fun b r => xcat r ≤ 8 ∧ ∃ h1, EV X d m2 (.ref b :: (st.take n).reverse) h none h1 ∧ xZ p l e R s mI args below meth c D tc E base m h0 hf Q (pc + 3) ls r h1) : xZ p l e R s mI args below meth c D tc E base m h0 hf Q pc ls st h := by
  obtain ⟨b, r, est, hcat, h1, hev, hs⟩ := xr1_ex hs
  obtain ⟨g1, g2, g3⟩ := EV_grows X d _ _ _ _ _ hev
  refine ⟨⟨Nat.le_trans g1 hs.1.1, Nat.le_trans g2 hs.1.2⟩, fun hwf q1 q2 H locs la hl' hP hS => x_size fun hz => ?_⟩
  have hlen : (st.take n).reverse.length = n := by
    have h9 : (st.drop n).length = r.length + 1 := by rw [est]; rfl
    rw [List.length_drop] at h9
    rw [List.length_reverse, List.length_take]
    omega
  obtain ⟨hx, hb, hml, hown, hts, hin, hK, hX, hsz, hrc, hrs, hfr, hlo⟩ := Z
  have hHs : H.size = base + h.1 := x_hsize hP (by omega) (by have := hS.1; omega)
  have estk : st.map (xc E base) = (((st.take n).reverse).map (xc E base)).reverse ++ (.ref (base + b) :: r.map (xc E base)) := by
    show _ = _ ++ (xc E base (.ref b) :: r.map (xc E base))
    rw [← List.map_cons, ← est, ← List.map_reverse, List.reverse_reverse, ← List.map_append, List.take_append_drop]
  rw [estk]
  obtain ⟨c1, c2, c3, c4, c5, c6⟩ := okc_ex hc
  have hM := hC _ _ _ _ _ hev hwf
  unfold xMet at hM
  have hGI := xws_in c2
  have hw0 : xws m2 = .code (xmn m2) (xmb m2) (xml m2) none :: xTB := by unfold xws; rw [hret]
  have w1 := hs.1.1
  have w2 := hs.1.2
  have kk : ∀ (H1 : Heap) (locs1 : List Loc), va_P D xcls (xw E base tc h1) H1 → va_S (xA base) s.heap H1 locs1 → W p l e R s mI args below meth c H1 locs1 (h.1 - h0.1 + (h1.1 - h.1)) (h.2.1 - h0.2.1 + (h1.2.1 - h.2.1)) Q (F0 mI (pc + 3) la (((none : Option Value).map (xc E base)).toList ++ r.map (xc E base))) := by
    intro H1 locs1 hP1 hS1
    have := hs.2 (g3 hwf) (Nat.le_trans q1 g1) (Nat.le_trans q2 g2) H1 locs1 la hl' hP1 hS1
    rw [show h.1 - h0.1 + (h1.1 - h.1) = h1.1 - h0.1 by omega, show h.2.1 - h0.2.1 + (h1.2.1 - h.2.1) = h1.2.1 - h0.2.1 by omega]
    exact this
  unfold okl at hl
  by_cases hne : nest = 0
  · rw [if_pos hne] at hl
    exact x_called (va_runI (b := base + b) (As := ((st.take n).reverse).map (xc E base)) (rest := r.map (xc E base)) ⟨hx, hb, hml, hown, hts⟩ hM (cwI n hts hGI hw0 rfl rfl (hts _ c1) (hts _ (okw_of hl)) (hts _ (okw_of hi)) hnm ⟨c3, c4, c5⟩ ⟨hfr, by show 8 + (xml m2 + 11) + 40 * d ≤ R.locals; omega⟩) ⟨x_blind, fun U hU hW => x_pre hK hX hHs hP hS U hU hW⟩ rfl (by rw [List.length_map]; exact hlen) hl'.1 rfl (x_room9 hcat rfl) hd ⟨by omega, by omega⟩) hS kk
  · rw [if_neg hne] at hl
    have hnest := hX.2.2.2.2.2.2.2.2.2.1 _ _ _ _ (List.mem_of_getElem? (of_decide_eq_true hl))
    exact x_called (va_runIN (b := base + b) (As := ((st.take n).reverse).map (xc E base)) (rest := r.map (xc E base)) ⟨hx, hb, hml, hown, hts⟩ hM ⟨va_cnB n hts hGI hw0 rfl rfl hnest (hts _ c1) ⟨c3, c4, c5⟩ ⟨hfr, by show 8 + (xml m2 + 11) + 40 * d ≤ R.locals; omega⟩, hnm, hts _ (okw_of hi)⟩ ⟨x_blind, fun U hU hW => x_pre hK hX hHs hP hS U hU hW⟩ rfl (by rw [List.length_map]; exact hlen) hl'.1 rfl (x_room9 hcat rfl) hd ⟨by omega, by omega⟩) hS kk
theorem xs_obj {idx wl wi wcode : Nat} (Z : xCtx p R s mI args meth c D tc E X base m d h0 hf) (hd : decode (xmb m) pc = .ok (.invokespecial idx, 3)) (hl : okw wl (.methodLink (xmn m).cls idx objectInit) = true) (hi : okw wi (.instanceMethod objectInit) = true) (hc : okw wcode (.code objectInit ⟨#[0xb1]⟩ 1 none) = true)
    (hs : xr1 st fun _ r => xcat r ≤ 8 ∧ xZ p l e R s mI args below meth c D tc E base m h0 hf Q (pc + 3) ls r h) : xZ p l e R s mI args below meth c D tc E base m h0 hf Q pc ls st h := by
  obtain ⟨a, r, rfl, hcat, hs⟩ := xr1_ex hs
  obtain ⟨hx, hb, hml, hown, hts, hin, hK, hX, hsz, hrc, hrs, hfr, hlo⟩ := Z
  refine ⟨hs.1, fun hwf q1 q2 H locs la hl' hP hS => ?_⟩
  exact W.objInit (g := F0 mI pc la ((Value.ref a :: r).map (xc E base))) (rest := r.map (xc E base)) hx hb hown (hts _ (okw_of hl)) (hts _ (okw_of hi)) (hts _ (okw_of hc)) rfl (by rw [hml]; exact hl'.1) rfl hd (by omega) (by rw [xc_sum]; show 2 * 0 + xcat r + 12 ≤ R.locals; omega) (hs.2 hwf q1 q2 H locs la hl' hP hS)
theorem xs_table {dflt lo hi : Int} {offs : Array Int} {t : Nat} {ts : List Nat} {len : Nat} (Z : xCtx p R s mI args meth c D tc E X base m d h0 hf) (hd : decode (xmb m) pc = .ok (.tableswitch dflt lo hi offs, len)) (k1 : (pc : Int) + dflt = (t : Int)) (k2 : offs.toList.map (fun o => (pc : Int) + o) = List.map (fun (t : Nat) => (t : Int)) ts) (k3 : (hi - lo + 1 : Int) = (ts.length : Int))
    (hs : xi1 st fun x r => xsw (t :: ts) (x.toInt - lo) fun t => xZ p l e R s mI args below meth c D tc E base m h0 hf Q t ls r h) : xZ p l e R s mI args below meth c D tc E base m h0 hf Q pc ls st h := by
  obtain ⟨x, r, rfl, hq⟩ := xi1_ex hs
  clear hs
  obtain ⟨hx, hb, hml, hown, hts, hin, hK, hX, hsz, hrc, hrs, hfr, hlo⟩ := Z
  unfold xsw at hq
  dsimp only at hq
  by_cases hc : x.toInt - lo < 0
  · rw [if_pos hc] at hq
    refine ⟨hq.1, fun hwf q1 q2 H locs la hl' hP hS => ?_⟩
    exact lv_tableOut hx hb hd (Or.inl (by omega)) k1 (hq.2 hwf q1 q2 H locs la hl' hP hS)
  · rw [if_neg hc] at hq
    cases e1 : ts[(x.toInt - lo).toNat]? with
    | none =>
      rw [e1] at hq
      have := List.getElem?_eq_none_iff.mp e1
      refine ⟨hq.1, fun hwf q1 q2 H locs la hl' hP hS => ?_⟩
      exact lv_tableOut hx hb hd (Or.inr (by omega)) k1 (hq.2 hwf q1 q2 H locs la hl' hP hS)
    | some t1 =>
      rw [e1] at hq
      have hlt := (List.getElem?_eq_some_iff.mp e1).1
      have e2 : (offs.toList.map (fun o => (pc : Int) + o))[(x.toInt - lo).toNat]? = some (t1 : Int) := by
        rw [k2, List.getElem?_map, e1]
        rfl
      rw [List.getElem?_map] at e2
      cases e3 : offs.toList[(x.toInt - lo).toNat]? with
      | none => rw [e3] at e2; cases e2
      | some off =>
        rw [e3] at e2
        have e4 : (pc : Int) + off = (t1 : Int) := Option.some.inj e2
        refine ⟨hq.1, fun hwf q1 q2 H locs la hl' hP hS => ?_⟩
        exact lv_tableIn hx hb hd (by omega) (by omega) (by rw [← Array.getElem?_toList]; exact e3) e4 (hq.2 hwf q1 q2 H locs la hl' hP hS)
theorem xs_iret {v : Option Value} {x : Int32} (Z : xCtx p R s mI args meth c D tc E X base m d h0 hf) (hr : meth.sig.returnType = xmr m) (hlk : meth.locks = false) (hd : decode (xmb m) pc = .ok (.ireturn, 1)) (hn : xrt m x) (hv : some (.int x) = v) : xZ p l e R s mI args below meth c D tc E base m h0 hf (MQ below (xQc D tc E base v hf) args s (hf.1 - h0.1) (hf.2.1 - h0.2.1) (xA base)) pc ls [.int x] hf := by
  obtain ⟨hx, hb, hml, hown, hts, hin, hK, hX, hsz, hrc, hrs, hfr, hlo⟩ := Z
  refine ⟨⟨Nat.le_refl _, Nat.le_refl _⟩, fun hwf q1 q2 H locs la hl' hP hS => x_size fun hz => ?_⟩
  have hHs : H.size = base + hf.1 := x_hsize hP (by omega) (by have := hS.1; omega)
  unfold xrt at hn
  cases hty : xmr m with
  | none => rw [hty] at hn; exact hn.elim
  | some ty =>
    rw [hty] at hn hr
    exact W.zret (v := x) hx hb hr hn (fun t ht hW => ⟨⟨by rw [← hv]; rfl, by rw [ht]; exact hHs, by rw [ht]; exact hP⟩, hS.F ht⟩) hS.2.2 hd hlk
theorem xs_vret {v : Option Value} (Z : xCtx p R s mI args meth c D tc E X base m d h0 hf) (hr : meth.sig.returnType = xmr m) (hlk : meth.locks = false) (hd : decode (xmb m) pc = .ok (.return_, 1)) (hn : xmr m = none) (hv : none = v) : xZ p l e R s mI args below meth c D tc E base m h0 hf (MQ below (xQc D tc E base v hf) args s (hf.1 - h0.1) (hf.2.1 - h0.2.1) (xA base)) pc ls [] hf := by
  obtain ⟨hx, hb, hml, hown, hts, hin, hK, hX, hsz, hrc, hrs, hfr, hlo⟩ := Z
  refine ⟨⟨Nat.le_refl _, Nat.le_refl _⟩, fun hwf q1 q2 H locs la hl' hP hS => x_size fun hz => ?_⟩
  have hHs : H.size = base + hf.1 := x_hsize hP (by omega) (by have := hS.1; omega)
  rw [hn] at hr
  exact W.vret hx hb hr (fun t ht hW => ⟨⟨by rw [← hv]; rfl, by rw [ht]; exact hHs, by rw [ht]; exact hP⟩, hS.F ht⟩) hS.2.2 hd hlk
end XS3
