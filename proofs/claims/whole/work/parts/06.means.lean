/-! What a picture means: its cells stand from 'base' on, one behind the other; what lies outside (the text, the sizes, the script) is never written. -/
def xc (E : Nat → Nat) (base : Nat) (v : Value) : Value := match v with
  | .ref i => .ref (base + i)
  | .retAddr k => .ref (E k)
  | v => v
theorem xc_cat {E : Nat → Nat} {base : Nat} {v : Value} : (xc E base v).category = v.category := by cases v <;> rfl
theorem xc_sum {E : Nat → Nat} {base : Nat} : ∀ (st : List Value), ((st.map (xc E base)).map fun v => v.category).sum = xcat st
  | [] => rfl
  | a :: l => by
    have ih := xc_sum (E := E) (base := base) l
    simp only [xcat, List.map_cons, List.sum_cons, xc_cat] at ih ⊢
    omega
def xkn (v : Value) : Prop := match v with
  | .float _ => False
  | .double _ => False
  | _ => True
def xLV (E : Nat → Nat) (base nL : Nat) (ls : List Value) (la : Array Slot) : Prop := la.size = nL ∧ ls.length = nL ∧ lv_wf la ∧ ∀ (i : Nat) (v : Value), ls[i]? = some v → xkn v → la[i]? = some (Slot.val (xc E base v))
def xE (E : Nat → Nat) (base : Nat) (tc : Nat → ClassId) (c : xC) : va_E := match c with
  | .inl (t, n, .inl f) => .inl (tc t, n, .inl f)
  | .inl (t, n, .inr f) => .inl (tc t, n, .inr (.inr (.inr (.inr fun j => (f j).map (fun x => base + x)))))
  | .inr (ci, fs) => .inr (ci, fs.map (xc E base))
def xw (E : Nat → Nat) (base : Nat) (tc : Nat → ClassId) (h : xHp) : va_W := (List.range h.1).map fun i => (base + i, xE E base tc ((hg h i).getD (.inr (99, []))))
def xWF (h : xHp) : Prop := (∀ a, a < h.1 → ∃ c, hg h a = some c) ∧ ∀ a c, hg h a = some c → a < h.1
def xtys (tc : Nat → ClassId) : List (ClassId × FieldType) := [(tc 0, .int), (tc 1, .char), (tc 2, .boolean), (tc 3, .object "PaintedTown$Town")]
def xA (base : Nat) : Nat → Prop := fun q => base ≤ q
def xtx : String := "v4,5;p3,4;p8,1;p9,1;p12,5;p11,2;p13,7;p16,3;p18,1;i3,0;i2,4;i16,0;i17,3;e12;w2;l9;g3,2,4,1;"
def xX (E : Nat → Nat) (X : Nat × (Nat → Int32)) (base : Nat) (U : State) (H : Heap) : Prop :=
  va_Z "PaintedTown" "SIZES" "[I" (.ref (E 2)) (xA base) U H ∧ va_T .int (E 2) 8 (fun j => .int (xsz j)) (xA base) U H ∧
  vk_R "PaintedTown" 72 xtx (E 0) U ∧ va_O "java/lang/String" (E 0) (xA base) U H ∧ va_OF "java/lang/String" "coder" "B" (.int 0) (E 0) (xA base) U H ∧
  va_OF "java/lang/String" "value" "[B" (.ref (E 1)) (E 0) (xA base) U H ∧ va_T .byte (E 1) 91 (fun j => .int (xby j)) (xA base) U H ∧
  va_Z "java/lang/String" "COMPACT_STRINGS" "Z" (.int 1) (xA base) U H ∧
  va_Z "jdk/internal/util/Preconditions" "SIOOBE_FORMATTER" "Ljava/util/function/BiFunction;" (xc E base (xnf X)) (xA base) U H ∧
  (∀ (a : String) (i : Nat) (y : MethodName) (z : String), Cond.methodLinkNest a i y z ∈ xnests → va_Nw (.methodLinkNest a i y z) U) ∧ va_AO "PaintedTown$Town" U ∧
  va_X (E 4) X.1 X.2 U H ∧ E 4 < base
theorem xX.go {E : Nat → Nat} {X : Nat × (Nat → Int32)} {base : Nat} {s U : State} {H H1 : Heap} (hW : s.WarmedH U.vm) (hH : ∀ a : Nat, a < H.size → ¬ xA base a → H1[a]? = H[a]?) (h : xX E X base s H) : xX E X base U H1 := by
  obtain ⟨a1, a2, a3, a4, a5, a6, a7, a8, a9, a10, a11, a12, a13⟩ := h
  have hvm := hW.alike
  refine ⟨va_Z.moved hvm (a1.kept hH), va_T.moved hvm (a2.kept hH), a3.warm hW, va_O.moved hvm (a4.kept hH), va_OF.moved hvm (a5.kept hH), va_OF.moved hvm (a6.kept hH), va_T.moved hvm (a7.kept hH), va_Z.moved hvm (a8.kept hH), va_Z.moved hvm (a9.kept hH), fun a i y z hm => (a10 a i y z hm).warmM hW, va_AO.moved hvm a11, va_X.moved hvm (a12.kept (hH _ ?_ ?_)), a13⟩
  · obtain ⟨scr, q, -⟩ := a12
    exact (Array.getElem?_eq_some_iff.mp q).1
  · exact Nat.not_le.mpr a13
def xWd (D : va_G) (tc : Nat → ClassId) (E : Nat → Nat) (X : Nat × (Nat → Int32)) (base : Nat) (h : xHp) (U : State) : Prop :=
  U.heap.size = base + h.1 ∧ va_P D xcls (xw E base tc h) U.heap ∧ va_K D xcls (xtys tc) U ∧ xX E X base U U.heap
/-- the code's own word, and all words of the tables -/
def xws (m : Nat) : List Cond := .code (xmn m) (xmb m) (xml m) (xmr m) :: xTB
def xQc (D : va_G) (tc : Nat → ClassId) (E : Nat → Nat) (base : Nat) (v : Option Value) (h' : xHp) : Array Value → State → Outcome → State → Prop := fun _ st oc t =>
  (oc = .returned (v.map (xc E base)) ∧ t.heap.size = base + h'.1 ∧ va_P D xcls (xw E base tc h') t.heap) ∧ va_F (xA base) st t
def xMet (l : Launch) (D : va_G) (tc : Nat → ClassId) (E : Nat → Nat) (X : Nat × (Nat → Int32)) (base d m : Nat) (av : List Value) (h : xHp) (v : Option Value) (h' : xHp) : Prop :=
  Met l (xmn m) (xws m) { frames := d, cells := h'.1 - h.1, slots := h'.2.1 - h.2.1, locals := 40 * d } (va_Pc (av.map (xc E base)) (xWd D tc E X base h)) (xQc D tc E base v h') (h'.1 - h.1) (h'.2.1 - h.2.1) (xA base)
/-! worlds as lists -/
theorem xw_len {E : Nat → Nat} {base : Nat} {tc : Nat → ClassId} {h : xHp} : (xw E base tc h).length = h.1 := by simp [xw]
theorem xw_at {E : Nat → Nat} {base : Nat} {tc : Nat → ClassId} {h : xHp} {a : Nat} {c : xC} (hc : hg h a = some c) (ha : a < h.1) : (xw E base tc h)[a]? = some (base + a, xE E base tc c) := by
  unfold xw
  rw [List.getElem?_map, List.getElem?_range ha]
  simp [hc]
theorem xw_addr {E : Nat → Nat} {base : Nat} {tc : Nat → ClassId} {h : xHp} {i : Nat} {q : Nat × va_E} (hq : (xw E base tc h)[i]? = some q) : i < h.1 ∧ q.1 = base + i := by
  have hi : i < h.1 := by
    have := (List.getElem?_eq_some_iff.mp hq).1
    rwa [xw_len] at this
  refine ⟨hi, ?_⟩
  unfold xw at hq
  rw [List.getElem?_map, List.getElem?_range hi] at hq
  cases hq
  rfl
theorem xw_D {E : Nat → Nat} {base : Nat} {tc : Nat → ClassId} {h : xHp} : va_D (xA base) (xw E base tc h) := by
  refine ⟨fun i j p q hi hj e => ?_, fun k q hk => ?_⟩
  · have h1 := (xw_addr hi).2
    have h2 := (xw_addr hj).2
    omega
  · have h1 := (xw_addr hk).2
    show base ≤ q.1
    omega
theorem xw_set {E : Nat → Nat} {base : Nat} {tc : Nat → ClassId} {h : xHp} {a : Nat} {c : xC} (ha : a < h.1) : (xw E base tc h).set a (base + a, xE E base tc c) = xw E base tc (xset h a c) := by
  apply List.ext_getElem?
  intro i
  rw [List.getElem?_set]
  by_cases hi : i < h.1
  · have e1 : (xw E base tc (xset h a c))[i]? = some (base + i, xE E base tc ((hg (xset h a c) i).getD (.inr (99, [])))) := by
      unfold xw; rw [List.getElem?_map, List.getElem?_range (show i < (xset h a c).1 from hi)]; rfl
    have e2 : (xw E base tc h)[i]? = some (base + i, xE E base tc ((hg h i).getD (.inr (99, [])))) := by
      unfold xw; rw [List.getElem?_map, List.getElem?_range hi]; rfl
    rw [e1, e2]
    by_cases e : a = i
    · subst e
      simp [xw_len, hi, hg, xset]
    · have : ¬ i = a := fun z => e z.symm
      simp [e, hg, xset, this]
  · have e1 : (xw E base tc (xset h a c))[i]? = none := by
      rw [List.getElem?_eq_none]; rw [xw_len]; exact Nat.not_lt.mp hi
    have e2 : (xw E base tc h)[i]? = none := by
      rw [List.getElem?_eq_none]; rw [xw_len]; exact Nat.not_lt.mp hi
    rw [e1, e2]
    by_cases e : a = i
    · omega
    · simp [e]
theorem xw_new {E : Nat → Nat} {base : Nat} {tc : Nat → ClassId} {h : xHp} {k : Nat} {c : xC} : xw E base tc h ++ [(base + h.1, xE E base tc c)] = xw E base tc (xnew h k c) := by
  have e : xw E base tc (xnew h k c) = (List.range (h.1 + 1)).map fun i => (base + i, xE E base tc ((hg (xnew h k c) i).getD (.inr (99, [])))) := rfl
  rw [e, List.range_succ, List.map_append]
  congr 1
  · unfold xw
    apply List.map_congr_left
    intro i hi
    have : i < h.1 := List.mem_range.mp hi
    have e2 : hg (xnew h k c) i = hg h i := by
      show (if i = h.1 then some c else h.2.2 i) = h.2.2 i
      rw [if_neg (by omega)]
    rw [e2]
  · show [(base + h.1, xE E base tc c)] = [(base + h.1, xE E base tc ((hg (xnew h k c) h.1).getD (.inr (99, []))))]
    have e2 : hg (xnew h k c) h.1 = some c := by
      show (if h.1 = h.1 then some c else h.2.2 h.1) = some c
      rw [if_pos rfl]
    rw [e2]
    rfl
theorem xWF_set {h : xHp} {a : Nat} {c c0 : xC} (hw : xWF h) (h0 : hg h a = some c0) : xWF (xset h a c) := by
  refine ⟨fun b hb => ?_, fun b c' hb => ?_⟩
  · by_cases e : b = a
    · exact ⟨c, by show (if b = a then some c else h.2.2 b) = some c; rw [if_pos e]⟩
    · obtain ⟨c', h'⟩ := hw.1 b hb
      exact ⟨c', by show (if b = a then some c else h.2.2 b) = some c'; rw [if_neg e]; exact h'⟩
  · by_cases e : b = a
    · rw [e]; exact hw.2 a c0 h0
    · have hb : (if b = a then some c else h.2.2 b) = some c' := hb
      rw [if_neg e] at hb
      exact hw.2 b c' hb
theorem xWF_new {h : xHp} {k : Nat} {c : xC} (hw : xWF h) : xWF (xnew h k c) := by
  refine ⟨fun b hb => ?_, fun b c' hb => ?_⟩
  · by_cases e : b = h.1
    · exact ⟨c, by show (if b = h.1 then some c else h.2.2 b) = some c; rw [if_pos e]⟩
    · have hb : b < h.1 + 1 := hb
      obtain ⟨c', h'⟩ := hw.1 b (by omega)
      exact ⟨c', by show (if b = h.1 then some c else h.2.2 b) = some c'; rw [if_neg e]; exact h'⟩
  · show b < h.1 + 1
    by_cases e : b = h.1
    · omega
    · have hb : (if b = h.1 then some c else h.2.2 b) = some c' := hb
      rw [if_neg e] at hb
      have := hw.2 b c' hb
      omega
/-! locals -/
noncomputable def xlv (E : Nat → Nat) (base : Nat) (ls : List Value) : List (Nat × Value) := (List.range ls.length).filterMap fun (i : Nat) => match ls[i]? with
  | some (Value.int x) => some (i, Value.int x)
  | some (Value.long x) => some (i, Value.long x)
  | some (Value.ref x) => some (i, Value.ref (base + x))
  | some (Value.retAddr x) => some (i, Value.ref (E x))
  | some Value.null => some (i, Value.null)
  | _ => none
theorem xlv_mem {E : Nat → Nat} {base : Nat} {ls : List Value} {i : Nat} {v : Value} : (i, v) ∈ xlv E base ls ↔ ∃ w, ls[i]? = some w ∧ xkn w ∧ v = xc E base w := by
  unfold xlv
  rw [List.mem_filterMap]
  constructor
  · rintro ⟨j, hj, h⟩
    cases hw : ls[j]? with
    | none => rw [hw] at h; cases h
    | some w =>
      rw [hw] at h
      cases w <;> first | cases h | skip
      all_goals exact ⟨_, hw, trivial, rfl⟩
  · rintro ⟨w, hw, hk, rfl⟩
    refine ⟨i, List.mem_range.mpr (List.getElem?_eq_some_iff.mp hw).1, ?_⟩
    rw [hw]
    cases w <;> first | rfl | exact hk.elim
theorem xLV.has {E : Nat → Nat} {base nL : Nat} {ls : List Value} {la : Array Slot} (h : xLV E base nL ls la) : lv_has la nL (xlv E base ls) := by
  refine ⟨h.1, h.2.2.1, fun q hq => ?_⟩
  obtain ⟨i, v⟩ := q
  obtain ⟨w, h1, h2, rfl⟩ := xlv_mem.mp hq
  exact h.2.2.2 i w h1 h2
theorem xLV.st1 {E : Nat → Nat} {base nL i : Nat} {v : Value} {ls : List Value} {la : Array Slot} (hl : ls.length = nL) (hp : xpre ls i) (hi : i < ls.length) (hc : v.category = 1) (h : lv_has la nL ((i, xc E base v) :: (xlv E base ls).filter (fun q => !(q.1 == i) && !(q.1 + 1 == i && q.2.category == 2)))) : xLV E base nL (ls.set i v) la := by
  refine ⟨h.1, by simpa using hl, h.2.1, fun j w hj hk => ?_⟩
  rw [List.getElem?_set] at hj
  by_cases e : i = j
  · subst e
    rw [if_pos rfl, if_pos hi] at hj
    cases hj
    exact h.2.2 (i, xc E base v) List.mem_cons_self
  · rw [if_neg e] at hj
    refine h.2.2 (j, xc E base w) (List.mem_cons_of_mem _ (List.mem_filter.mpr ⟨xlv_mem.mpr ⟨w, hj, hk, rfl⟩, ?_⟩))
    simp only [Bool.and_eq_true, Bool.not_eq_true', beq_eq_false_iff_ne, Bool.and_eq_false_iff, ne_eq]
    refine ⟨fun z => e z.symm, ?_⟩
    by_cases e2 : j + 1 = i
    · right
      subst e2
      have hp : xnl ls[j]? := hp
      rw [hj] at hp
      rw [xc_cat]
      cases w <;> first | exact hp.elim | exact hk.elim | (intro z; cases z)
    · left
      exact e2
theorem xLV.st2 {E : Nat → Nat} {base nL i : Nat} {x : Int64} {ls : List Value} {la : Array Slot} (hl : ls.length = nL) (hp : xpre ls i) (hi : i + 1 < ls.length) (h : lv_has la nL ((i, Value.long x) :: (xlv E base ls).filter (fun q => !(q.1 == i) && (!(q.1 == i + 1) && !(q.1 + 1 == i && q.2.category == 2))))) : xLV E base nL ((ls.set i (.long x)).set (i + 1) (.double 0)) la := by
  refine ⟨h.1, by simpa using hl, h.2.1, fun j w hj hk => ?_⟩
  rw [List.getElem?_set] at hj
  by_cases e1 : i + 1 = j
  · subst e1
    rw [if_pos rfl, if_pos (by simpa using hi)] at hj
    cases hj
    exact hk.elim
  rw [if_neg e1, List.getElem?_set] at hj
  by_cases e : i = j
  · subst e
    rw [if_pos rfl, if_pos (by omega)] at hj
    cases hj
    exact h.2.2 (i, .long x) List.mem_cons_self
  · rw [if_neg e] at hj
    refine h.2.2 (j, xc E base w) (List.mem_cons_of_mem _ (List.mem_filter.mpr ⟨xlv_mem.mpr ⟨w, hj, hk, rfl⟩, ?_⟩))
    simp only [Bool.and_eq_true, Bool.not_eq_true', beq_eq_false_iff_ne, Bool.and_eq_false_iff, ne_eq]
    refine ⟨fun z => e z.symm, fun z => e1 z.symm, ?_⟩
    by_cases e2 : j + 1 = i
    · right
      subst e2
      have hp : xnl ls[j]? := hp
      rw [hj] at hp
      rw [xc_cat]
      cases w <;> first | exact hp.elim | exact hk.elim | (intro z; cases z)
    · left
      exact e2
theorem xarg_sl (E : Nat → Nat) (base : Nat) : ∀ (av : List Value), (lg_sl (av.map (xc E base))).length = (xarg av).length
  | [] => rfl
  | a :: l => by
    have ih := xarg_sl E base l
    simp only [lg_sl, xarg, List.map_cons, List.flatMap_cons, List.length_append, xc_cat] at ih ⊢
    rw [ih]
    split <;> rfl
theorem xarg_at (E : Nat → Nat) (base : Nat) : ∀ (av : List Value) (k i : Nat) (v : Value), (xarg av)[i]? = some v → xkn v → (k + i, xc E base v) ∈ lv_args k (av.map (xc E base))
  | [], _, i, v, h, _ => by simp [xarg] at h
  | a :: l, k, i, v, h, hk => by
    have e : xarg (a :: l) = (if a.category = 2 then [a, .double 0] else [a]) ++ xarg l := rfl
    rw [e] at h
    simp only [List.map_cons, lv_args, xc_cat]
    by_cases hc : a.category = 2
    · rw [if_pos hc] at h
      rw [if_pos hc]
      match i, h with
      | 0, h => cases h; exact List.mem_cons_self
      | 1, h => cases h; exact hk.elim
      | i + 2, h =>
        have h : (xarg l)[i]? = some v := h
        have := xarg_at E base l (k + 2) i v h hk
        rw [show k + (i + 2) = k + 2 + i by omega]
        exact List.mem_cons_of_mem _ this
    · rw [if_neg hc] at h
      rw [if_neg hc]
      match i, h with
      | 0, h => cases h; exact List.mem_cons_self
      | i + 1, h =>
        have h : (xarg l)[i]? = some v := h
        have := xarg_at E base l (k + 1) i v h hk
        rw [show k + (i + 1) = k + 1 + i by omega]
        exact List.mem_cons_of_mem _ this
theorem xLV.start {E : Nat → Nat} {base m : Nat} {av : List Value} (hn : (xarg av).length ≤ xml m) : xLV E base (xml m) (xini m av) ((lg_sl (av.map (xc E base)) ++ List.replicate (xml m - (lg_sl (av.map (xc E base))).length) Slot.unset).toArray) := by
  have h := lv_entry (av.map (xc E base)) (n := xml m) (by rw [xarg_sl]; exact hn)
  refine ⟨h.1, ?_, h.2.1, fun i v hi hk => ?_⟩
  · simp only [xini, List.length_append, List.length_replicate]; omega
  · unfold xini at hi
    rw [List.getElem?_append] at hi
    by_cases hl : i < (xarg av).length
    · rw [if_pos hl] at hi
      have := xarg_at E base av 0 i v hi hk
      rw [Nat.zero_add] at this
      exact h.2.2 _ this
    · rw [if_neg hl, List.getElem?_replicate] at hi
      split at hi
      · cases hi; exact hk.elim
      · cases hi
