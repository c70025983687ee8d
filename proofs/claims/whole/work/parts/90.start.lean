/-! THE CLAIM OUT OF ONE WALK OF THE LAW'S BODY. Your part is whole_start (and what it stands on); all else here is the same for every law, but numbers. -/
def R_law : String := "PaintedTownLaw"
def lw_P (b : Addr) (xs : List Int32) (args : Array Value) (s : State) : Prop := args = #[.ref b] ∧ s.IntsAt b xs ∧ xs.length ≤ 256 ∧ (Jvm.Cond.and given_1 narrow_1).before args s = true
def lw_Q (_ : Array Value) (s : State) (o : Outcome) (t : State) : Prop := o = .returned (some (.int 1)) ∧ Framed s o t [] 600000 7302250
def lw_Z (below : List Frame) (a : Array Value) (s : State) : State → Prop := fun t => ∃ o, t.status = .running ∧ Ended t below o ∧ lw_Q a s o t
/-- the law's own end, with 1 on the stack, nothing written that was there before, its room as the claim has it -/
theorem lw_ret {p : Program} {l : Launch} {e : Env} {s : State} {m : MethodId} {below : List Frame} {meth : Method} {c : Code} {b : Nat} (hx : p.tables.exec = Jvm.exec) (hb : c.code = code) (hr : meth.sig.returnType = ret) (hlocks : meth.locks = false) {pc : Nat} {H : Heap} {ls : Array Slot} (hdg : decode code pc = .ok (.ireturn, 1)) : W p l e room_1 s m #[Value.ref b] below meth c H [] 600000 7302250 (lw_Z below #[Value.ref b] s) (F0 m pc ls [.int 1]) := by
  intro T hT X
  obtain ⟨fs, hret, hrun, hended, hW, hframe⟩ := X.leave (v := some (.int 1)) (hlocks := hlocks) (fun h => by rw [hr] at h; cases h)
  have hmeth' : T.vm.method? m = some meth := X.method'
  refine ⟨T.setFrames fs, ?_, .returned (some (.int 1)), hrun, hended, rfl, ⟨_, rfl⟩, hW, hframe⟩
  jvm_step X.here [X.here.top, hx, hb, hdg, hmeth', hr, ret, narrow_b1]
  (try refine ⟨rfl, ?_⟩); (try refine ⟨rfl, ?_⟩)
  first | (intro acts; rw [hret _ acts rfl rfl rfl]) | rw [hret _ _ rfl rfl rfl]
  exact Steps.refl _
/-- what holds at the law's entry: the machine, the code, the tables' words (any of lw_tbl by 'hts w (by decide +kernel)'), the script of L ints xs at the cell b, what the Statement gives of the start (any of its parts by flat_of_before) -/
def lw_At (p : Program) (s : State) (m : MethodId) (meth : Method) (c : Code) (b L : Nat) (xs : Nat → Int32) : Prop :=
  p.tables.exec = Jvm.exec ∧ c.code = code ∧ meth.sig.returnType = ret ∧ c.maxLocals = 4 ∧ s.vm.findClass R_law = some m.cls ∧ (∀ w ∈ lw_tbl, w.before #[Value.ref b] s = true) ∧ va_X b L xs s s.heap ∧ b < s.heap.size ∧ meth.locks = false ∧ (Jvm.Cond.and given_1 narrow_1).before #[Value.ref b] s = true
/-- YOUR PART -/
theorem lw_forget1 {p : Program} {l : Launch} {e : Env} {s : State} {m : MethodId} {below : List Frame} {meth : Method} {c : Code} {b : Nat} (hx : p.tables.exec = Jvm.exec) (hb : c.code = code) (hr : meth.sig.returnType = ret) (hlocks : meth.locks = false) {pc : Nat} {H : Heap} {ls : Array Slot} {locs : List Loc} {cells slots : Nat} (hf : ∀ q ∈ locs, s.heap.size ≤ q.base) (h1 : cells ≤ 600000) (h2 : slots ≤ 7302250) (hdg : decode code pc = .ok (.ireturn, 1)) : W p l e room_1 s m #[Value.ref b] below meth c H locs cells slots (lw_Z below #[Value.ref b] s) (F0 m pc ls [.int 1]) :=
  va_forget hf (W.widen (k := 600000) (n := 7302250) h1 h2 (lw_ret hx hb hr hlocks hdg))
theorem lw_sizes {args : Array Value} {s : State} (hs : ∀ c ∈ flatC (Jvm.Cond.and given_1 narrow_1), c.before args s = true) : ∀ j : Nat, j < 8 → (Term.elem (.static "PaintedTown" "SIZES" "[I") (.int (Int32.ofNat j))).eval args s none [] s = some (.int (xsz j)) := by
  have h : ∀ j : Nat, j < 8 → (Cond.eq (.elem (.static "PaintedTown" "SIZES" "[I") (.int (Int32.ofNat j))) (.int (xsz j))) ∈ flatC (Jvm.Cond.and given_1 narrow_1) := by decide +kernel
  exact fun j hj => va_eqt (hs _ (h j hj))
set_option maxRecDepth 20000 in
theorem lw_bytes {args : Array Value} {s : State} (hs : ∀ c ∈ flatC (Jvm.Cond.and given_1 narrow_1), c.before args s = true) : ∀ j : Nat, j < 91 → (Term.elem (.field (.string "PaintedTown" 72) "java/lang/String" "value" "[B") (.int (Int32.ofNat j))).eval args s none [] s = some (.int (xby j)) := by
  have h : ∀ j : Nat, j < 91 → (Cond.eq (.elem (.field (.string "PaintedTown" 72) "java/lang/String" "value" "[B") (.int (Int32.ofNat j))) (.int (xby j))) ∈ flatC (Jvm.Cond.and given_1 narrow_1) := by decide +kernel
  exact fun j hj => va_eqt (hs _ (h j hj))
theorem xnests_in : ∀ w ∈ xnests, w ∈ lw_tbl := by
  intro w hw
  simp only [xnests, List.mem_cons, List.not_mem_nil, or_false] at hw
  rcases hw with rfl | rfl | rfl | rfl | rfl | rfl | rfl | rfl | rfl | rfl
  · exact List.mem_of_getElem? (i := 72) (by decide +kernel)
  · exact List.mem_of_getElem? (i := 78) (by decide +kernel)
  · exact List.mem_of_getElem? (i := 117) (by decide +kernel)
  · exact List.mem_of_getElem? (i := 183) (by decide +kernel)
  · exact List.mem_of_getElem? (i := 185) (by decide +kernel)
  · exact List.mem_of_getElem? (i := 188) (by decide +kernel)
  · exact List.mem_of_getElem? (i := 459) (by decide +kernel)
  · exact List.mem_of_getElem? (i := 507) (by decide +kernel)
  · exact List.mem_of_getElem? (i := 572) (by decide +kernel)
  · exact List.mem_of_getElem? (i := 597) (by decide +kernel)
theorem xknown {args : Array Value} {s : State} (hts : ∀ w ∈ xTB, w.before args s = true) {ci : Nat} {q : vw_C} (h : xcls[ci]? = some q) : ∃ (cC : ClassId) (iS : Nat → Nat), u_Kn s q.1 q.2.1 q.2.2 cC iS := by
  obtain ⟨C, T, N⟩ := q
  have hin := xcls_hin h
  match ci, h with
  | 0, h => cases h; exact u_known hts hin (hts _ (okw_of (i := 365) (c := .instantiable "PaintedTown" 11) (by decide +kernel)))
  | 1, h => cases h; exact u_known hts hin (hts _ (okw_of (i := 4) (c := .instantiable "PaintedTown$Script" 7) (by decide +kernel)))
  | 2, h => cases h; exact u_known hts hin (hts _ (okw_of (i := 10) (c := .instantiable "PaintedTown$Painting" 5) (by decide +kernel)))
  | 3, h => cases h; exact u_known hts hin (hts _ (okw_of (i := 16) (c := .instantiable "PaintedTown$Town" 6) (by decide +kernel)))
  | 4, h => cases h; exact u_known hts hin (hts _ (okw_of (i := 22) (c := .instantiable "PaintedTown$Past" 3) (by decide +kernel)))
  | 5, h => cases h; exact u_known hts hin (hts _ (okw_of (i := 30) (c := .instantiable "PaintedTown$Judge" 6) (by decide +kernel)))
  | 6, h => cases h; exact u_known hts hin (hts _ (okw_of (i := 37) (c := .instantiable "PaintedTown$Search" 9) (by decide +kernel)))
  | 7, h => cases h; exact u_known hts hin (hts _ (okw_of (i := 370) (c := .instantiable "PaintedTownModel" 19) (by decide +kernel)))
  | n + 8, h =>
    rw [List.getElem?_eq_none (by show (8 : Nat) ≤ n + 8; omega)] at h
    cases h
theorem lw_arr {args : Array Value} {s : State} {ty : FieldType} (hty : ∀ C, ty ≠ .object C) (h : (Cond.arrayClass ty).before args s = true) : ∃ cA : ClassId, ArrOfT s cA ty ∧ va_RA s cA ty := by
  obtain ⟨cA, kA, comp, h1, h2, h3⟩ := Cond.arrayClass_spec h
  refine ⟨cA, fun n z => ⟨fun k h => (by cases h), kA, h2, comp, h3⟩, ?_⟩
  cases ty with
  | object C => exact absurd rfl (hty C)
  | _ => exact h1
theorem lw_arrT {args : Array Value} {s : State} {C : String} (h : (Cond.arrayOver (.object C)).before args s = true) : ∃ cA : ClassId, ArrOfT s cA (.object C) ∧ va_RA s cA (.object C) := by
  obtain ⟨comp, cA, kA, h1, h2, h3, h4, h5⟩ := Cond.arrayOver_spec h
  exact ⟨cA, fun n z => ⟨fun k h => (by cases h), kA, h3, comp, h4⟩, kA, comp, h3, h4, h1, h5⟩
-- the law, read: it answers true (law_EV, part 58)
set_option maxHeartbeats 1000000 in
theorem whole_start {p : Program} {e : Env} {s : State} {m : MethodId} {below : List Frame} {meth : Method} {c : Code} (l : Launch) (hflags : l.flags = flags0) {b L : Nat} {xs : Nat → Int32} (hL : L ≤ 256) (C0 : lw_At p s m meth c b L xs) : W p l e room_1 s m #[Value.ref b] below meth c s.heap [] 0 0 (lw_Z below #[Value.ref b] s) (entryFrame m ([Value.ref b] : List Value).toArray 4) := by
  obtain ⟨hx, hb, hr, hml, hown, hts, hX, hbl, hlk, hgv⟩ := C0
  have hs := flat_of_before _ hgv
  have hTB : ∀ w ∈ xTB, w.before #[Value.ref b] s = true := fun w hw => hts w (List.mem_filter.mp hw).1
  have hA : ∀ a : Nat, a < s.heap.size → ¬ xA s.heap.size a := fun a ha z => Nat.not_lt.mpr z ha
  -- classes
  have hK0 : ∀ ci : Nat, ∃ q : ClassId × (Nat → Nat), ∀ r : vw_C, xcls[ci]? = some r → u_Kn s r.1 r.2.1 r.2.2 q.1 q.2 := by
    intro ci
    cases h : xcls[ci]? with
    | none => exact ⟨(0, fun _ => 0), fun r hr => by cases hr⟩
    | some r =>
      obtain ⟨cC, iS, hk⟩ := xknown hTB h
      exact ⟨(cC, iS), fun r' hr' => by cases hr'; exact hk⟩
  obtain ⟨kk, hkk⟩ := Classical.axiomOfChoice hK0
  obtain ⟨t0, ht0, ht0'⟩ := lw_arr (ty := .int) (fun C z => by cases z) (hts (.arrayClass .int) (List.mem_of_getElem? (i := 114) (by decide +kernel)))
  obtain ⟨t1, ht1, ht1'⟩ := lw_arr (ty := .char) (fun C z => by cases z) (hts (.arrayClass .char) (List.mem_of_getElem? (i := 113) (by decide +kernel)))
  obtain ⟨t2, ht2, ht2'⟩ := lw_arr (ty := .boolean) (fun C z => by cases z) (hts (.arrayClass .boolean) (List.mem_of_getElem? (i := 156) (by decide +kernel)))
  have hover : (Cond.arrayOver (.object "PaintedTown$Town")).before #[Value.ref b] s = true := hts _ (List.mem_of_getElem? (i := 193) (by decide +kernel))
  obtain ⟨t3, ht3, ht3'⟩ := lw_arrT hover
  let tc : Nat → ClassId := fun k => match k with | 0 => t0 | 1 => t1 | 2 => t2 | _ => t3
  let D : va_G := (fun ci => (kk ci).1, fun ci => (kk ci).2)
  have hK : va_K D xcls (xtys tc) s := by
    refine ⟨fun ci q hq => hkk ci q hq, fun k q hq => ?_⟩
    match k, hq with
    | 0, hq => cases hq; exact ⟨ht0, ht0'⟩
    | 1, hq => cases hq; exact ⟨ht1, ht1'⟩
    | 2, hq => cases hq; exact ⟨ht2, ht2'⟩
    | 3, hq => cases hq; exact ⟨ht3, ht3'⟩
    | k + 4, hq =>
      rw [List.getElem?_eq_none (by show (4 : Nat) ≤ k + 4; omega)] at hq
      cases hq
  -- what lies outside
  obtain ⟨aS, hS1, hS2⟩ := va_Tof (tm := .static "PaintedTown" "SIZES" "[I") (ty := .int) (N := 8) (f := fun j => .int (xsz j)) (A := xA s.heap.size) (by decide) (hs _ (by decide +kernel)) (va_eqt (z := 8) (hs _ (by decide +kernel))) (lw_sizes hs) hA
  have hZS := va_Zref (args := #[Value.ref b]) (hts (.laysStatic "PaintedTown" "SIZES" "[I") (List.mem_of_getElem? (i := 463) (by decide +kernel))) (hts (.initialized "PaintedTown") (List.mem_of_getElem? (i := 49) (by decide +kernel))) hS1 hA
  obtain ⟨aT, cT, cell, kT, q1, q2, q3, q4, q5, q6, -⟩ := Cond.exactly_spec (args := #[Value.ref b]) (first := s) (o := none) (s := s) (idx := []) (t := .string "PaintedTown" 72) (cls := "java/lang/String") (hs _ (by decide +kernel))
  have hO : va_O "java/lang/String" aT (xA s.heap.size) s s.heap := ⟨cell, q3, q5, by rw [q6]; exact q2, hA aT (Array.getElem?_eq_some_iff.mp q3).1⟩
  have hR : vk_R "PaintedTown" 72 xtx aT s := vk_R.of (hts (.stringRef "PaintedTown" 72 xtx) (List.mem_of_getElem? (i := 265) (by decide +kernel))) q1
  have hco : va_OF "java/lang/String" "coder" "B" (.int 0) aT (xA s.heap.size) s s.heap := vk_OFof q1 (va_eqt (hs _ (by decide +kernel))) hA
  obtain ⟨aV, hV1, hV2⟩ := va_Tof (tm := .field (.string "PaintedTown" 72) "java/lang/String" "value" "[B") (ty := .byte) (N := 91) (f := fun j => .int (xby j)) (A := xA s.heap.size) (by decide) (hs _ (by decide +kernel)) (va_eqt (z := 91) (hs _ (by decide +kernel))) (lw_bytes hs) hA
  have hva : va_OF "java/lang/String" "value" "[B" (.ref aV) aT (xA s.heap.size) s s.heap := vk_OFof q1 hV1 hA
  have hCS : va_Z "java/lang/String" "COMPACT_STRINGS" "Z" (.int 1) (xA s.heap.size) s s.heap := va_Zof (args := #[Value.ref b]) (hts (.laysStatic "java/lang/String" "COMPACT_STRINGS" "Z") (List.mem_of_getElem? (i := 275) (by decide +kernel))) (hts (.initialized "java/lang/String") (List.mem_of_getElem? (i := 56) (by decide +kernel))) (va_eqi (hs _ (by decide +kernel))) hA
  have hFo : va_Zq "jdk/internal/util/Preconditions" "SIOOBE_FORMATTER" "Ljava/util/function/BiFunction;" (xA s.heap.size) s s.heap := va_Zqof (args := #[Value.ref b]) (hts (.laysStatic "jdk/internal/util/Preconditions" "SIOOBE_FORMATTER" "Ljava/util/function/BiFunction;") (List.mem_of_getElem? (i := 291) (by decide +kernel))) (hts (.initialized "jdk/internal/util/Preconditions") (List.mem_of_getElem? (i := 58) (by decide +kernel))) (hs _ (by decide +kernel)) hA
  have hN : ∀ (a : String) (i : Nat) (y : MethodName) (z : String), Cond.methodLinkNest a i y z ∈ xnests → va_Nw (.methodLinkNest a i y z) s := fun a i y z h => va_Nw.of rfl (hts _ (xnests_in _ h))
  have hAO : va_AO "PaintedTown$Town" s := va_AO.of hover
  -- the formatter: null, or at some address
  obtain ⟨flag, aF, hFm⟩ : ∃ (flag : Int32) (aF : Nat), va_Z "jdk/internal/util/Preconditions" "SIOOBE_FORMATTER" "Ljava/util/function/BiFunction;" (if flag = 0 then .null else .ref aF) (xA s.heap.size) s s.heap := by
    rcases hFo with h | ⟨t, h⟩
    · exact ⟨0, 0, by rw [if_pos rfl]; exact h⟩
    · exact ⟨1, t, by rw [if_neg (by decide)]; exact h⟩
  obtain ⟨E, hE0, hE1, hE2, hE3, hE4⟩ : ∃ E : Nat → Nat, E 0 = aT ∧ E 1 = aV ∧ E 2 = aS ∧ E 3 = aF ∧ E 4 = b := ⟨fun k => match k with | 0 => aT | 1 => aV | 2 => aS | 3 => aF | _ => b, rfl, rfl, rfl, rfl, rfl⟩
  obtain ⟨X, hX1, hX2, hX3⟩ : ∃ X : Nat × (Nat → Int32), X.1 = L ∧ (∀ j, j < L → X.2 j = xs j) ∧ X.2 X.1 = flag := ⟨(L, fun j => if j < L then xs j else flag), rfl, fun j hj => if_pos hj, if_neg (Nat.lt_irrefl L)⟩
  have hXX : xX E X s.heap.size s s.heap := by
    refine ⟨by rw [hE2]; exact hZS, by rw [hE2]; exact hS2, by rw [hE0]; exact hR, by rw [hE0]; exact hO, by rw [hE0]; exact hco, by rw [hE0, hE1]; exact hva, by rw [hE1]; exact hV2, hCS, ?_, hN, hAO, ?_, by rw [hE4]; exact hbl⟩
    · have e : xc E s.heap.size (xnf X) = if flag = 0 then .null else .ref aF := by
        unfold xnf
        rw [hX3]
        by_cases hf : flag = 0
        · rw [if_pos hf, if_pos hf]; rfl
        · rw [if_neg hf, if_neg hf, ← hE3]; rfl
      rw [e]; exact hFm
    · rw [hE4, hX1]
      obtain ⟨scr, g1, g2, g3, g4, g5⟩ := hX
      exact ⟨scr, g1, g2, g3, g4, fun j hj => by rw [hX2 j hj]; exact g5 j hj⟩
  obtain ⟨d, h', hd, hc1, hc2, hlen, hrun⟩ := law_EV X.1 X.2 (by rw [hX1]; exact hL)
  have Z : xCtx p room_1 s m #[Value.ref b] meth c D tc E X s.heap.size 86 d (0, 0, fun _ => none) h' :=
    ⟨hx, hb, hml, hown, hTB, fun hn => absurd hn (by decide), hK, hXX, rfl, hc1, hc2, by show d + 1 ≤ 2048; omega, by show 40 * (d + 1) ≤ 84000; omega⟩
  have hz := hrun (xZ p l e room_1 s m #[Value.ref b] below meth c D tc E s.heap.size 86 (0, 0, fun _ => none) h' (lw_Z below #[Value.ref b] s)) fun pc ls st h2 hs => xstep_go (EV_sound d) Z
    (fun pc ls x h3 hd2 hn hq => by
      obtain ⟨h4, rfl⟩ := hq
      have h5 : x = 1 := Value.int.inj (Option.some.inj h4)
      subst h5
      exact ⟨⟨Nat.le_refl _, Nat.le_refl _⟩, fun hwf k1 k2 H locs la hl hP hS => lw_forget1 hx hb hr hlk hS.2.2 (by show h3.1 - 0 ≤ 600000; omega) (by show h3.2.1 - 0 ≤ 7302250; omega) hd2⟩)
    (fun pc ls h3 hd2 hn hq => absurd hn (by decide)) hs
  rw [lg_entry_eq]
  have hlv := xLV.start (E := E) (base := s.heap.size) hlen
  have hend := hz.2 ⟨fun a ha => absurd ha (Nat.not_lt_zero _), fun a c h => by cases h⟩ (Nat.le_refl _) (Nat.le_refl _) s.heap [] _ hlv (fun k q h => by cases k <;> cases h) va_S.rf
  have e4 : ([Value.retAddr 4] : List Value).map (xc E s.heap.size) = [Value.ref b] := by
    show [Value.ref (E 4)] = _
    rw [hE4]
  rw [e4] at hend
  exact hend
-- ===== YOUR PART ENDS =====
set_option maxHeartbeats 4000000 in
theorem lw_walk (l : Launch) (hflags : l.flags = flags0) (b : Addr) (xs : List Int32) : MetFree l x (headSpec (Jvm.Cond.code x code maxLocals ret :: tables_1) room_1) (lw_P b xs) (fun _ _ _ _ _ => True) lw_Q := by
  refine MetFree.of_bodyS (code := code) (maxLocals := maxLocals) (ret := ret) (by decide) ?_ ?_
  · intro args s m h hn
    obtain ⟨meth, c, h1, h2, h3, h4, h5, h6, -, -⟩ := Cond.code_spec hn (atoms_spec (ws := Jvm.Cond.code x code maxLocals ret :: tables_1) h _ List.mem_cons_self)
    exact ⟨meth, c, h1, h2, h3, h4, h5, h6⟩
  · intro p e s m args below meth c s₁ B hml0 hP _
    obtain ⟨rfl, hx, hbd, hgv⟩ := hP
    obtain ⟨scr, harrAt, hlist, hof, hsmall⟩ := hx
    obtain ⟨hcb, hkn, -, -⟩ := State.arrayAt?_spec harrAt
    have hown : s.vm.findClass R_law = some m.cls := findClass_of_methodNamed B.named
    have hts0 : ∀ c ∈ (Jvm.Cond.code x code maxLocals ret :: tables_1), c.before #[Value.ref b] s = true := atoms_spec (ws := Jvm.Cond.code x code maxLocals ret :: tables_1) B.pre
    have hts : ∀ w ∈ lw_tbl, w.before #[Value.ref b] s = true := k2_hts_sels lw_privs (fun w hw => hts0 w (List.mem_cons_of_mem _ hw)) lw_privs_ok
    have hml : c.maxLocals = 4 := B.maxLocals_eq (hts0 _ List.mem_cons_self)
    have X₀ : Stand p l e room_1 s m #[Value.ref b] below meth c s₁ [] 0 0 := Stand.of_body B
    have hh0 : s₁.heap = s.heap := by rw [B.state]; rfl
    have hsz : scr.slots.size = xs.length := by rw [← Array.length_toList, hlist, List.length_map]
    have hval : ∀ j : Nat, j < xs.length → scr.slots[j]? = some (.int (xs.getD j 0)) := fun j hj => by
      rw [← Array.getElem?_toList, hlist]
      simp [hj]
    have hbl : b < s.heap.size := (Array.getElem?_eq_some_iff.mp hcb).1
    have hX : va_X b xs.length (fun j => xs.getD j 0) s s.heap := ⟨scr, hcb, hof, hkn, hsz, hval⟩
    have K : W p l e room_1 s m #[Value.ref b] below meth c s₁.heap [] 0 0 (lw_Z below #[Value.ref b] s) (entryFrame m ([Value.ref b] : List Value).toArray 4) := by
      rw [hh0]
      exact whole_start l hflags hbd ⟨B.exec, B.bytes, B.returns, hml, hown, hts, hX, hbl, B.notSynchronized, hgv⟩
    obtain ⟨t, a1, o, b1, b2, b3⟩ := K s₁ rfl X₀
    exact ⟨t, o, a1, b1, b2, b3⟩
theorem lw_pre_spec {args : Array Value} {s : State} (h : (Jvm.Cond.and given_1 narrow_1).before args s = true) (hr : rest_1_c.before args s = true) : ∃ (b : Addr) (xs : List Int32), lw_P b xs args s := by
  have hs := flat_of_before _ h
  have hq := flat_of_before _ hr
  have hc : (Cond.count 1).before args s = true := hs _ (by decide +kernel)
  have harr : (Cond.arrayOf (.arg 0) .int).before args s = true := hs _ (by decide +kernel)
  have hle : (Cond.le (.length (.arg 0)) (.int 256)).before args s = true := hs _ (by decide +kernel)
  have hlen : (Cond.isInt (.length (.arg 0))).before args s = true := hq _ (by decide +kernel)
  have hall : (Cond.all (.arg 0) (.isInt (.elem (.arg 0) (.index 0)))).before args s = true := hq _ (by decide +kernel)
  obtain ⟨b, xs, hb, hx⟩ := State.ints_of_pre rfl harr hlen hall
  have hsm : xs.length < 2 ^ 31 := hx.choose_spec.2.2.2
  have hev : (Term.length (.arg 0)).eval args s none [] s = some (.int xs.length.toInt32) := hx.length_eval hb
  have hv := Cond.le_ints hev (show (Term.int 256).eval args s none [] s = some (.int 256) from rfl)
  have hd : xs.length.toInt32 ≤ 256 := by
    simpa [Cond.before, Cond.holds, hv] using hle
  have hN : xs.length ≤ 256 := (Int32.ofNat_le_ofNat hsm (by decide)).mp (show Int32.ofNat xs.length ≤ Int32.ofNat 256 from hd)
  exact ⟨b, xs, Cond.one_arg hc (show args[0]? = some (.ref b) from hb), hx, hN, h⟩
theorem lw_comes (l : Launch) (hflags : l.flags = flags0) : Comes l x (Jvm.Cond.code x code maxLocals ret :: tables_1) room_1 (fun tb e args s => Calls_1 tb e args s ∧ rest_1 tb e args s ∧ Pre_1 tb e args s)
    (fun _ _ args s o t => lw_Q args s o t) := by
  intro p e ha hc hk s m args below hf hfit hheap happ hpre
  obtain ⟨b, xs, hP⟩ := lw_pre_spec hpre.2.2 hpre.2.1
  obtain ⟨k, o, h1, h2, h3, hQ⟩ := lw_walk l hflags b xs p e ha hc hk s m args below hf ((Spec.applies_iff_loose hf).mp happ).1 hP trivial
  exact ⟨k, o, h1, h2, h3, hQ⟩
theorem lw_frame {s t : State} {o : Outcome} {args : Array Value} (h : Framed s o t [] 600000 7302250) :
    Framed s o t (fieldLocs frame_1_writes args s ++ arrayLocs frame_1_arrays args s ++ staticLocs frame_1_statics s) 600000 7302250 := h
theorem lw_limb (L : Cond) (hL : ∀ (args : Array Value) (s t : State), L.after args s (.returned (some (.int 1))) t = true) :
    ArmFor flags0 classFile x code maxLocals ret World_1 tables_1 room_1 Calls_1 rest_1 Pre_1
      (fun tb e a s o t => postC L tb e a s o t ∧ Framed s o t (fieldLocs frame_1_writes a s ++ arrayLocs frame_1_arrays a s ++ staticLocs frame_1_statics s) 600000 7302250) := by
  intro l hflags _ _ p e ha hc hk s m args below hf hfit hheap happ hpre
  obtain ⟨k, o, h1, h2, h3, rfl, hF⟩ := lw_comes l hflags p e ha hc hk s m args below hf hfit hheap happ hpre
  exact ⟨k, _, h1, h2, h3, hL args s _, lw_frame hF⟩
theorem i_vc : Claimed_1_1 ∧ Claimed_1_2 := ⟨lw_limb limb_1_1 (fun args s t => by simp [limb_1_1, Cond.after, Cond.holds, Cond.value]), lw_limb limb_1_2 (fun args s t => Cond.after_iff.mpr (by
  first | (rw [show limb_1_2 = Cond.eq .result (.int 1) from rfl, Cond.eq_ints (x := 1) (y := 1) rfl rfl]; simp; done) | (simp [limb_1_2, Cond.value, Term.eval]; done)))⟩
