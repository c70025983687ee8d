/-! Each step of the reader is a step of the machine. -/
theorem xi1_ex {st : List Value} {f : Int32 → List Value → Prop} (h : xi1 st f) : ∃ x r, st = .int x :: r ∧ f x r := by
  unfold xi1 at h; split at h
  · exact ⟨_, _, rfl, h⟩
  · exact h.elim
theorem xi2_ex {st : List Value} {f : Int32 → Int32 → List Value → Prop} (h : xi2 st f) : ∃ x y r, st = .int y :: .int x :: r ∧ f x y r := by
  unfold xi2 at h; split at h
  · exact ⟨_, _, _, rfl, h⟩
  · exact h.elim
theorem xl1_ex {st : List Value} {f : Int64 → List Value → Prop} (h : xl1 st f) : ∃ x r, st = .long x :: r ∧ f x r := by
  unfold xl1 at h; split at h
  · exact ⟨_, _, rfl, h⟩
  · exact h.elim
theorem xl2_ex {st : List Value} {f : Int64 → Int64 → List Value → Prop} (h : xl2 st f) : ∃ x y r, st = .long y :: .long x :: r ∧ f x y r := by
  unfold xl2 at h; split at h
  · exact ⟨_, _, _, rfl, h⟩
  · exact h.elim
theorem xr1_ex {st : List Value} {f : Nat → List Value → Prop} (h : xr1 st f) : ∃ x r, st = .ref x :: r ∧ f x r := by
  unfold xr1 at h; split at h
  · exact ⟨_, _, rfl, h⟩
  · exact h.elim
theorem xv1_ex {st : List Value} {f : Value → List Value → Prop} (h : xv1 st f) : ∃ x r, st = x :: r ∧ f x r := by
  unfold xv1 at h; split at h
  · exact ⟨_, _, rfl, h⟩
  · exact h.elim
theorem xio_ex {o : Option Value} {f : Int32 → Prop} (h : xio o f) : ∃ x, o = some (.int x) ∧ f x := by
  unfold xio at h; split at h
  · exact ⟨_, rfl, h⟩
  · exact h.elim
theorem xlo_ex {o : Option Value} {f : Int64 → Prop} (h : xlo o f) : ∃ x, o = some (.long x) ∧ f x := by
  unfold xlo at h; split at h
  · exact ⟨_, rfl, h⟩
  · exact h.elim
theorem xao_ex {o : Option Value} {f : Value → Prop} (h : xao o f) : ∃ v, o = some v ∧ f v ∧ ((∃ x, v = .ref x) ∨ ∃ x, v = .retAddr x) := by
  unfold xao at h; split at h
  · exact ⟨_, rfl, h, Or.inl ⟨_, rfl⟩⟩
  · exact ⟨_, rfl, h, Or.inr ⟨_, rfl⟩⟩
  · exact h.elim
theorem xsm_ex {o : Option Value} {f : Value → Prop} (h : xsm o f) : ∃ v, o = some v ∧ f v := by
  unfold xsm at h; split at h
  · exact ⟨_, rfl, h⟩
  · exact h.elim
theorem xob_ex {c : Option xC} {ci : Nat} {f : List Value → Prop} (h : xob c ci f) : ∃ fs, c = some (.inr (ci, fs)) ∧ f fs := by
  unfold xob at h; split at h
  · obtain ⟨rfl, h⟩ := h; exact ⟨_, rfl, h⟩
  · exact h.elim
theorem xar_ex {c : Option xC} {t : Nat} {f : Nat → (Nat → Int32) → Prop} (h : xar c t f) : ∃ n g, c = some (.inl (t, n, .inl g)) ∧ f n g := by
  unfold xar at h; split at h
  · obtain ⟨rfl, h⟩ := h; exact ⟨_, _, rfl, h⟩
  · exact h.elim
theorem xaq_ex {c : Option xC} {f : Nat → (Nat → Option Nat) → Prop} (h : xaq c f) : ∃ n g, c = some (.inl (3, n, .inr g)) ∧ f n g := by
  unfold xaq at h; split at h
  · obtain ⟨rfl, h⟩ := h; exact ⟨_, _, rfl, h⟩
  · exact h.elim
theorem xal_ex {c : Option xC} {f : Nat → Prop} (h : xal c f) : ∃ t n g, c = some (.inl (t, n, g)) ∧ f n := by
  unfold xal at h; split at h
  · exact ⟨_, _, _, rfl, h⟩
  · exact h.elim
section XS
variable {p : Program} {l : Launch} {e : Env} {R : Room} {s : State} {mI : MethodId} {args : Array Value} {below : List Frame} {meth : Method} {c : Code} {D : va_G} {tc : Nat → ClassId} {E : Nat → Nat} {X : Nat × (Nat → Int32)} {base m d : Nat} {h0 hf : xHp} {Q : State → Prop}
variable {pc : Nat} {ls st : List Value} {h : xHp}
/-- what holds all through a method's body -/
def xCtx (p : Program) (R : Room) (s : State) (mI : MethodId) (args : Array Value) (meth : Method) (c : Code) (D : va_G) (tc : Nat → ClassId) (E : Nat → Nat) (X : Nat × (Nat → Int32)) (base m d : Nat) (h0 hf : xHp) : Prop :=
  p.tables.exec = Jvm.exec ∧ c.code = xmb m ∧ c.maxLocals = xml m ∧ s.vm.findClass (xmn m).cls = some mI.cls ∧ (∀ w ∈ xTB, w.before args s = true) ∧ ((xmn m).name = "<init>" → meth.name = "<init>") ∧ va_K D xcls (xtys tc) s ∧ xX E X base s s.heap ∧ s.heap.size = base + h0.1 ∧ hf.1 - h0.1 ≤ R.cells ∧ hf.2.1 - h0.2.1 ≤ R.slots ∧ d + 1 ≤ R.frames ∧ 40 * (d + 1) ≤ R.locals
/-- from here the machine comes to Q -/
def xZ (p : Program) (l : Launch) (e : Env) (R : Room) (s : State) (mI : MethodId) (args : Array Value) (below : List Frame) (meth : Method) (c : Code) (D : va_G) (tc : Nat → ClassId) (E : Nat → Nat) (base m : Nat) (h0 hf : xHp) (Q : State → Prop) (pc : Nat) (ls st : List Value) (h : xHp) : Prop :=
  (h.1 ≤ hf.1 ∧ h.2.1 ≤ hf.2.1) ∧ (xWF h → h0.1 ≤ h.1 → h0.2.1 ≤ h.2.1 → ∀ (H : Heap) (locs : List Loc) (la : Array Slot), xLV E base (xml m) ls la → va_P D xcls (xw E base tc h) H → va_S (xA base) s.heap H locs →
    W p l e R s mI args below meth c H locs (h.1 - h0.1) (h.2.1 - h0.2.1) Q (F0 mI pc la (st.map (xc E base))))
theorem x_size {H : Heap} {locs : List Loc} {cells slots : Nat} {g : JFrame} (kk : H.size ≤ s.heap.size + cells → W p l e R s mI args below meth c H locs cells slots Q g) : W p l e R s mI args below meth c H locs cells slots Q g :=
  fun T hT X => kk (by have := X.heapSize; rw [hT] at this; exact this) T hT X
theorem x_room {r : List Value} {la : Array Slot} (hc : xcat r ≤ 8) : 2 * (F0 mI pc la (r.map (xc E base))).monitorRoom + ((r.map (xc E base)).map fun v => v.category).sum ≤ 8 := by
  rw [xc_sum]
  show 2 * 0 + _ ≤ 8
  omega

theorem xs_iconst {n : Int} (Z : xCtx p R s mI args meth c D tc E X base m d h0 hf) (hd : decode (xmb m) pc = .ok (.iconst n, 1)) (hs : xZ p l e R s mI args below meth c D tc E base m h0 hf Q (pc + 1) ls (.int (Int32.ofInt n) :: st) h) : xZ p l e R s mI args below meth c D tc E base m h0 hf Q pc ls st h := by
  obtain ⟨hx, hb, hml, hown, hts, hin, hK, hX, hsz, hrc, hrs, hfr, hlo⟩ := Z
  refine ⟨hs.1, fun hwf q1 q2 H locs la hl hP hS => ?_⟩
  exact lv_iconst hx hb hd rfl (hs.2 hwf q1 q2 H locs la hl hP hS)
theorem xs_bipush {n : Int} (Z : xCtx p R s mI args meth c D tc E X base m d h0 hf) (hd : decode (xmb m) pc = .ok (.bipush n, 2)) (hs : xZ p l e R s mI args below meth c D tc E base m h0 hf Q (pc + 2) ls (.int ((Int8.ofInt n).toInt32) :: st) h) : xZ p l e R s mI args below meth c D tc E base m h0 hf Q pc ls st h := by
  obtain ⟨hx, hb, hml, hown, hts, hin, hK, hX, hsz, hrc, hrs, hfr, hlo⟩ := Z
  refine ⟨hs.1, fun hwf q1 q2 H locs la hl hP hS => ?_⟩
  exact lv_bipush hx hb hd rfl (hs.2 hwf q1 q2 H locs la hl hP hS)
theorem xs_sipush {n : Int} (Z : xCtx p R s mI args meth c D tc E X base m d h0 hf) (hd : decode (xmb m) pc = .ok (.sipush n, 3)) (hs : xZ p l e R s mI args below meth c D tc E base m h0 hf Q (pc + 3) ls (.int ((Int16.ofInt n).toInt32) :: st) h) : xZ p l e R s mI args below meth c D tc E base m h0 hf Q pc ls st h := by
  obtain ⟨hx, hb, hml, hown, hts, hin, hK, hX, hsz, hrc, hrs, hfr, hlo⟩ := Z
  refine ⟨hs.1, fun hwf q1 q2 H locs la hl hP hS => ?_⟩
  exact lv_sipush hx hb hd rfl (hs.2 hwf q1 q2 H locs la hl hP hS)
theorem xs_lconst {n : Fin 2} (Z : xCtx p R s mI args meth c D tc E X base m d h0 hf) (hd : decode (xmb m) pc = .ok (.lconst n, 1)) (hs : xZ p l e R s mI args below meth c D tc E base m h0 hf Q (pc + 1) ls (.long (Int64.ofNat n) :: st) h) : xZ p l e R s mI args below meth c D tc E base m h0 hf Q pc ls st h := by
  obtain ⟨hx, hb, hml, hown, hts, hin, hK, hX, hsz, hrc, hrs, hfr, hlo⟩ := Z
  refine ⟨hs.1, fun hwf q1 q2 H locs la hl hP hS => ?_⟩
  exact lv_lconst hx hb hd rfl (hs.2 hwf q1 q2 H locs la hl hP hS)
theorem xs_iload {k : Nat} (Z : xCtx p R s mI args meth c D tc E X base m d h0 hf) (hd : decode (xmb m) pc = .ok (.iload k, 2)) (hs : xio ls[k]? fun x => xZ p l e R s mI args below meth c D tc E base m h0 hf Q (pc + 2) ls (.int x :: st) h) : xZ p l e R s mI args below meth c D tc E base m h0 hf Q pc ls st h := by
  obtain ⟨hx, hb, hml, hown, hts, hin, hK, hX, hsz, hrc, hrs, hfr, hlo⟩ := Z
  obtain ⟨x, e, hs⟩ := xio_ex hs
  refine ⟨hs.1, fun hwf q1 q2 H locs la hl hP hS => ?_⟩
  exact lv_iload hx hb hd (hl.2.2.2 _ _ e trivial) (hs.2 hwf q1 q2 H locs la hl hP hS)
theorem xs_iload_n {k : Fin 4} (Z : xCtx p R s mI args meth c D tc E X base m d h0 hf) (hd : decode (xmb m) pc = .ok (.iload_n k, 1)) (hs : xio ls[(k : Nat)]? fun x => xZ p l e R s mI args below meth c D tc E base m h0 hf Q (pc + 1) ls (.int x :: st) h) : xZ p l e R s mI args below meth c D tc E base m h0 hf Q pc ls st h := by
  obtain ⟨hx, hb, hml, hown, hts, hin, hK, hX, hsz, hrc, hrs, hfr, hlo⟩ := Z
  obtain ⟨x, e, hs⟩ := xio_ex hs
  refine ⟨hs.1, fun hwf q1 q2 H locs la hl hP hS => ?_⟩
  exact lv_iload_n hx hb hd rfl (hl.2.2.2 _ _ e trivial) (hs.2 hwf q1 q2 H locs la hl hP hS)
theorem xs_lload {k : Nat} (Z : xCtx p R s mI args meth c D tc E X base m d h0 hf) (hd : decode (xmb m) pc = .ok (.lload k, 2)) (hs : xlo ls[k]? fun x => xZ p l e R s mI args below meth c D tc E base m h0 hf Q (pc + 2) ls (.long x :: st) h) : xZ p l e R s mI args below meth c D tc E base m h0 hf Q pc ls st h := by
  obtain ⟨hx, hb, hml, hown, hts, hin, hK, hX, hsz, hrc, hrs, hfr, hlo⟩ := Z
  obtain ⟨x, e, hs⟩ := xlo_ex hs
  refine ⟨hs.1, fun hwf q1 q2 H locs la hl hP hS => ?_⟩
  exact lv_lload hx hb hd (hl.2.2.2 _ _ e trivial) (hs.2 hwf q1 q2 H locs la hl hP hS)
theorem xs_lload_n {k : Fin 4} (Z : xCtx p R s mI args meth c D tc E X base m d h0 hf) (hd : decode (xmb m) pc = .ok (.lload_n k, 1)) (hs : xlo ls[(k : Nat)]? fun x => xZ p l e R s mI args below meth c D tc E base m h0 hf Q (pc + 1) ls (.long x :: st) h) : xZ p l e R s mI args below meth c D tc E base m h0 hf Q pc ls st h := by
  obtain ⟨hx, hb, hml, hown, hts, hin, hK, hX, hsz, hrc, hrs, hfr, hlo⟩ := Z
  obtain ⟨x, e, hs⟩ := xlo_ex hs
  refine ⟨hs.1, fun hwf q1 q2 H locs la hl hP hS => ?_⟩
  exact lv_lload_n hx hb hd rfl (hl.2.2.2 _ _ e trivial) (hs.2 hwf q1 q2 H locs la hl hP hS)
theorem xs_aload {k : Nat} (Z : xCtx p R s mI args meth c D tc E X base m d h0 hf) (hd : decode (xmb m) pc = .ok (.aload k, 2)) (hs : xao ls[k]? fun x => xZ p l e R s mI args below meth c D tc E base m h0 hf Q (pc + 2) ls (x :: st) h) : xZ p l e R s mI args below meth c D tc E base m h0 hf Q pc ls st h := by
  obtain ⟨hx, hb, hml, hown, hts, hin, hK, hX, hsz, hrc, hrs, hfr, hlo⟩ := Z
  obtain ⟨v, e, hs, hv⟩ := xao_ex hs
  refine ⟨hs.1, fun hwf q1 q2 H locs la hl hP hS => ?_⟩
  rcases hv with ⟨x, rfl⟩ | ⟨x, rfl⟩
  · exact lv_aload hx hb hd (hl.2.2.2 _ _ e trivial) (hs.2 hwf q1 q2 H locs la hl hP hS)
  · exact lv_aload hx hb hd (hl.2.2.2 _ _ e trivial) (hs.2 hwf q1 q2 H locs la hl hP hS)

theorem xs_aload_n {k : Fin 4} (Z : xCtx p R s mI args meth c D tc E X base m d h0 hf) (hd : decode (xmb m) pc = .ok (.aload_n k, 1)) (hs : xao ls[(k : Nat)]? fun x => xZ p l e R s mI args below meth c D tc E base m h0 hf Q (pc + 1) ls (x :: st) h) : xZ p l e R s mI args below meth c D tc E base m h0 hf Q pc ls st h := by
  obtain ⟨hx, hb, hml, hown, hts, hin, hK, hX, hsz, hrc, hrs, hfr, hlo⟩ := Z
  obtain ⟨v, e, hs, hv⟩ := xao_ex hs
  refine ⟨hs.1, fun hwf q1 q2 H locs la hl hP hS => ?_⟩
  rcases hv with ⟨x, rfl⟩ | ⟨x, rfl⟩
  · exact lv_aload_n hx hb hd rfl (hl.2.2.2 _ _ e trivial) (hs.2 hwf q1 q2 H locs la hl hP hS)
  · exact lv_aload_n hx hb hd rfl (hl.2.2.2 _ _ e trivial) (hs.2 hwf q1 q2 H locs la hl hP hS)

theorem xs_istore {k : Nat} (Z : xCtx p R s mI args meth c D tc E X base m d h0 hf) (hd : decode (xmb m) pc = .ok (.istore k, 2)) (hs : xi1 st fun x r => k < ls.length ∧ xpre ls k ∧ xZ p l e R s mI args below meth c D tc E base m h0 hf Q (pc + 2) (ls.set k (.int x)) r h) : xZ p l e R s mI args below meth c D tc E base m h0 hf Q pc ls st h := by
  obtain ⟨hx, hb, hml, hown, hts, hin, hK, hX, hsz, hrc, hrs, hfr, hlo⟩ := Z
  obtain ⟨x, r, rfl, k1, k2, hs⟩ := xi1_ex hs
  refine ⟨hs.1, fun hwf q1 q2 H locs la hl hP hS => ?_⟩
  exact lv_istore hx hb hd hl.has (by rw [← hl.2.1]; exact k1) rfl (fun la2 h2 => hs.2 hwf q1 q2 H locs la2 (xLV.st1 (v := .int x) hl.2.1 k2 k1 rfl h2) hP hS)
theorem xs_istore_n {k : Fin 4} (Z : xCtx p R s mI args meth c D tc E X base m d h0 hf) (hd : decode (xmb m) pc = .ok (.istore_n k, 1)) (hs : xi1 st fun x r => (k : Nat) < ls.length ∧ xpre ls (k : Nat) ∧ xZ p l e R s mI args below meth c D tc E base m h0 hf Q (pc + 1) (ls.set k (.int x)) r h) : xZ p l e R s mI args below meth c D tc E base m h0 hf Q pc ls st h := by
  obtain ⟨hx, hb, hml, hown, hts, hin, hK, hX, hsz, hrc, hrs, hfr, hlo⟩ := Z
  obtain ⟨x, r, rfl, k1, k2, hs⟩ := xi1_ex hs
  refine ⟨hs.1, fun hwf q1 q2 H locs la hl hP hS => ?_⟩
  exact lv_istore_n hx hb hd rfl hl.has (by rw [← hl.2.1]; exact k1) rfl (fun la2 h2 => hs.2 hwf q1 q2 H locs la2 (xLV.st1 (v := .int x) hl.2.1 k2 k1 rfl h2) hP hS)
theorem xs_astore {k : Nat} (Z : xCtx p R s mI args meth c D tc E X base m d h0 hf) (hd : decode (xmb m) pc = .ok (.astore k, 2)) (hs : xr1 st fun x r => k < ls.length ∧ xpre ls k ∧ xZ p l e R s mI args below meth c D tc E base m h0 hf Q (pc + 2) (ls.set k (.ref x)) r h) : xZ p l e R s mI args below meth c D tc E base m h0 hf Q pc ls st h := by
  obtain ⟨hx, hb, hml, hown, hts, hin, hK, hX, hsz, hrc, hrs, hfr, hlo⟩ := Z
  obtain ⟨x, r, rfl, k1, k2, hs⟩ := xr1_ex hs
  refine ⟨hs.1, fun hwf q1 q2 H locs la hl hP hS => ?_⟩
  exact lv_astore hx hb hd hl.has (by rw [← hl.2.1]; exact k1) rfl (fun la2 h2 => hs.2 hwf q1 q2 H locs la2 (xLV.st1 (v := .ref x) hl.2.1 k2 k1 rfl h2) hP hS)
theorem xs_astore_n {k : Fin 4} (Z : xCtx p R s mI args meth c D tc E X base m d h0 hf) (hd : decode (xmb m) pc = .ok (.astore_n k, 1)) (hs : xr1 st fun x r => (k : Nat) < ls.length ∧ xpre ls (k : Nat) ∧ xZ p l e R s mI args below meth c D tc E base m h0 hf Q (pc + 1) (ls.set k (.ref x)) r h) : xZ p l e R s mI args below meth c D tc E base m h0 hf Q pc ls st h := by
  obtain ⟨hx, hb, hml, hown, hts, hin, hK, hX, hsz, hrc, hrs, hfr, hlo⟩ := Z
  obtain ⟨x, r, rfl, k1, k2, hs⟩ := xr1_ex hs
  refine ⟨hs.1, fun hwf q1 q2 H locs la hl hP hS => ?_⟩
  exact lv_astore_n hx hb hd rfl hl.has (by rw [← hl.2.1]; exact k1) rfl (fun la2 h2 => hs.2 hwf q1 q2 H locs la2 (xLV.st1 (v := .ref x) hl.2.1 k2 k1 rfl h2) hP hS)
theorem xs_lstore {k : Nat} (Z : xCtx p R s mI args meth c D tc E X base m d h0 hf) (hd : decode (xmb m) pc = .ok (.lstore k, 2)) (hs : xl1 st fun x r => k + 1 < ls.length ∧ xpre ls k ∧ xZ p l e R s mI args below meth c D tc E base m h0 hf Q (pc + 2) ((ls.set k (.long x)).set (k + 1) (.double 0)) r h) : xZ p l e R s mI args below meth c D tc E base m h0 hf Q pc ls st h := by
  obtain ⟨hx, hb, hml, hown, hts, hin, hK, hX, hsz, hrc, hrs, hfr, hlo⟩ := Z
  obtain ⟨x, r, rfl, k1, k2, hs⟩ := xl1_ex hs
  refine ⟨hs.1, fun hwf q1 q2 H locs la hl hP hS => ?_⟩
  exact lv_lstore hx hb hd hl.has (by rw [← hl.2.1]; exact k1) rfl (fun la2 h2 => hs.2 hwf q1 q2 H locs la2 (xLV.st2 hl.2.1 k2 k1 h2) hP hS)
theorem xs_lstore_n {k : Fin 4} (Z : xCtx p R s mI args meth c D tc E X base m d h0 hf) (hd : decode (xmb m) pc = .ok (.lstore_n k, 1)) (hs : xl1 st fun x r => (k : Nat) + 1 < ls.length ∧ xpre ls (k : Nat) ∧ xZ p l e R s mI args below meth c D tc E base m h0 hf Q (pc + 1) ((ls.set k (.long x)).set ((k : Nat) + 1) (.double 0)) r h) : xZ p l e R s mI args below meth c D tc E base m h0 hf Q pc ls st h := by
  obtain ⟨hx, hb, hml, hown, hts, hin, hK, hX, hsz, hrc, hrs, hfr, hlo⟩ := Z
  obtain ⟨x, r, rfl, k1, k2, hs⟩ := xl1_ex hs
  refine ⟨hs.1, fun hwf q1 q2 H locs la hl hP hS => ?_⟩
  exact lv_lstore_n hx hb hd rfl hl.has (by rw [← hl.2.1]; exact k1) rfl (fun la2 h2 => hs.2 hwf q1 q2 H locs la2 (xLV.st2 hl.2.1 k2 k1 h2) hP hS)
theorem xs_iinc {k : Nat} {n : Int} (Z : xCtx p R s mI args meth c D tc E X base m d h0 hf) (hd : decode (xmb m) pc = .ok (.iinc k n, 3)) (hs : xio ls[k]? fun x => xpre ls k ∧ xZ p l e R s mI args below meth c D tc E base m h0 hf Q (pc + 3) (ls.set k (.int (x + Int32.ofInt n))) st h) : xZ p l e R s mI args below meth c D tc E base m h0 hf Q pc ls st h := by
  obtain ⟨hx, hb, hml, hown, hts, hin, hK, hX, hsz, hrc, hrs, hfr, hlo⟩ := Z
  obtain ⟨x, e, k2, hs⟩ := xio_ex hs
  refine ⟨hs.1, fun hwf q1 q2 H locs la hl hP hS => ?_⟩
  have k1 : k < ls.length := (List.getElem?_eq_some_iff.mp e).1
  obtain ⟨j, hj⟩ := List.getElem?_of_mem (xlv_mem.mpr ⟨_, e, trivial, rfl⟩ : (k, xc E base (.int x)) ∈ xlv E base ls)
  exact lv_iinc hx hb hd hl.has hj rfl (by rw [← hl.2.1]; exact k1) rfl (fun la2 h2 => hs.2 hwf q1 q2 H locs la2 (xLV.st1 (v := .int (x + Int32.ofInt n)) hl.2.1 k2 k1 rfl h2) hP hS)
theorem xs_iadd (Z : xCtx p R s mI args meth c D tc E X base m d h0 hf) (hd : decode (xmb m) pc = .ok (.iadd, 1)) (hs : xi2 st fun x y r => xZ p l e R s mI args below meth c D tc E base m h0 hf Q (pc + 1) ls (.int (x + y) :: r) h) : xZ p l e R s mI args below meth c D tc E base m h0 hf Q pc ls st h := by
  obtain ⟨hx, hb, hml, hown, hts, hin, hK, hX, hsz, hrc, hrs, hfr, hlo⟩ := Z
  obtain ⟨x, y, r, rfl, hs⟩ := xi2_ex hs
  refine ⟨hs.1, fun hwf q1 q2 H locs la hl hP hS => ?_⟩
  exact lv_iadd hx hb hd (hs.2 hwf q1 q2 H locs la hl hP hS)
theorem xs_isub (Z : xCtx p R s mI args meth c D tc E X base m d h0 hf) (hd : decode (xmb m) pc = .ok (.isub, 1)) (hs : xi2 st fun x y r => xZ p l e R s mI args below meth c D tc E base m h0 hf Q (pc + 1) ls (.int (x - y) :: r) h) : xZ p l e R s mI args below meth c D tc E base m h0 hf Q pc ls st h := by
  obtain ⟨hx, hb, hml, hown, hts, hin, hK, hX, hsz, hrc, hrs, hfr, hlo⟩ := Z
  obtain ⟨x, y, r, rfl, hs⟩ := xi2_ex hs
  refine ⟨hs.1, fun hwf q1 q2 H locs la hl hP hS => ?_⟩
  exact lv_isub hx hb hd (hs.2 hwf q1 q2 H locs la hl hP hS)
theorem xs_imul (Z : xCtx p R s mI args meth c D tc E X base m d h0 hf) (hd : decode (xmb m) pc = .ok (.imul, 1)) (hs : xi2 st fun x y r => xZ p l e R s mI args below meth c D tc E base m h0 hf Q (pc + 1) ls (.int (x * y) :: r) h) : xZ p l e R s mI args below meth c D tc E base m h0 hf Q pc ls st h := by
  obtain ⟨hx, hb, hml, hown, hts, hin, hK, hX, hsz, hrc, hrs, hfr, hlo⟩ := Z
  obtain ⟨x, y, r, rfl, hs⟩ := xi2_ex hs
  refine ⟨hs.1, fun hwf q1 q2 H locs la hl hP hS => ?_⟩
  exact lv_imul hx hb hd (hs.2 hwf q1 q2 H locs la hl hP hS)
theorem xs_iand (Z : xCtx p R s mI args meth c D tc E X base m d h0 hf) (hd : decode (xmb m) pc = .ok (.iand, 1)) (hs : xi2 st fun x y r => xZ p l e R s mI args below meth c D tc E base m h0 hf Q (pc + 1) ls (.int (x &&& y) :: r) h) : xZ p l e R s mI args below meth c D tc E base m h0 hf Q pc ls st h := by
  obtain ⟨hx, hb, hml, hown, hts, hin, hK, hX, hsz, hrc, hrs, hfr, hlo⟩ := Z
  obtain ⟨x, y, r, rfl, hs⟩ := xi2_ex hs
  refine ⟨hs.1, fun hwf q1 q2 H locs la hl hP hS => ?_⟩
  exact lv_iand hx hb hd (hs.2 hwf q1 q2 H locs la hl hP hS)
theorem xs_ior (Z : xCtx p R s mI args meth c D tc E X base m d h0 hf) (hd : decode (xmb m) pc = .ok (.ior, 1)) (hs : xi2 st fun x y r => xZ p l e R s mI args below meth c D tc E base m h0 hf Q (pc + 1) ls (.int (x ||| y) :: r) h) : xZ p l e R s mI args below meth c D tc E base m h0 hf Q pc ls st h := by
  obtain ⟨hx, hb, hml, hown, hts, hin, hK, hX, hsz, hrc, hrs, hfr, hlo⟩ := Z
  obtain ⟨x, y, r, rfl, hs⟩ := xi2_ex hs
  refine ⟨hs.1, fun hwf q1 q2 H locs la hl hP hS => ?_⟩
  exact lv_ior hx hb hd (hs.2 hwf q1 q2 H locs la hl hP hS)
theorem xs_ishl (Z : xCtx p R s mI args meth c D tc E X base m d h0 hf) (hd : decode (xmb m) pc = .ok (.ishl, 1)) (hs : xi2 st fun x y r => xZ p l e R s mI args below meth c D tc E base m h0 hf Q (pc + 1) ls (.int (x <<< (y &&& 31)) :: r) h) : xZ p l e R s mI args below meth c D tc E base m h0 hf Q pc ls st h := by
  obtain ⟨hx, hb, hml, hown, hts, hin, hK, hX, hsz, hrc, hrs, hfr, hlo⟩ := Z
  obtain ⟨x, y, r, rfl, hs⟩ := xi2_ex hs
  refine ⟨hs.1, fun hwf q1 q2 H locs la hl hP hS => ?_⟩
  exact lv_ishl hx hb hd (hs.2 hwf q1 q2 H locs la hl hP hS)
theorem xs_ishr (Z : xCtx p R s mI args meth c D tc E X base m d h0 hf) (hd : decode (xmb m) pc = .ok (.ishr, 1)) (hs : xi2 st fun x y r => xZ p l e R s mI args below meth c D tc E base m h0 hf Q (pc + 1) ls (.int (x >>> (y &&& 31)) :: r) h) : xZ p l e R s mI args below meth c D tc E base m h0 hf Q pc ls st h := by
  obtain ⟨hx, hb, hml, hown, hts, hin, hK, hX, hsz, hrc, hrs, hfr, hlo⟩ := Z
  obtain ⟨x, y, r, rfl, hs⟩ := xi2_ex hs
  refine ⟨hs.1, fun hwf q1 q2 H locs la hl hP hS => ?_⟩
  exact lv_ishr hx hb hd (hs.2 hwf q1 q2 H locs la hl hP hS)
theorem xs_idiv (Z : xCtx p R s mI args meth c D tc E X base m d h0 hf) (hd : decode (xmb m) pc = .ok (.idiv, 1)) (hs : xi2 st fun x y r => ¬ y = 0 ∧ xZ p l e R s mI args below meth c D tc E base m h0 hf Q (pc + 1) ls (.int (x / y) :: r) h) : xZ p l e R s mI args below meth c D tc E base m h0 hf Q pc ls st h := by
  obtain ⟨hx, hb, hml, hown, hts, hin, hK, hX, hsz, hrc, hrs, hfr, hlo⟩ := Z
  obtain ⟨x, y, r, rfl, k1, hs⟩ := xi2_ex hs
  refine ⟨hs.1, fun hwf q1 q2 H locs la hl hP hS => ?_⟩
  exact lv_idiv hx hb hd k1 (hs.2 hwf q1 q2 H locs la hl hP hS)
theorem xs_irem (Z : xCtx p R s mI args meth c D tc E X base m d h0 hf) (hd : decode (xmb m) pc = .ok (.irem, 1)) (hs : xi2 st fun x y r => ¬ y = 0 ∧ xZ p l e R s mI args below meth c D tc E base m h0 hf Q (pc + 1) ls (.int (x - x / y * y) :: r) h) : xZ p l e R s mI args below meth c D tc E base m h0 hf Q pc ls st h := by
  obtain ⟨hx, hb, hml, hown, hts, hin, hK, hX, hsz, hrc, hrs, hfr, hlo⟩ := Z
  obtain ⟨x, y, r, rfl, k1, hs⟩ := xi2_ex hs
  refine ⟨hs.1, fun hwf q1 q2 H locs la hl hP hS => ?_⟩
  exact lv_irem hx hb hd k1 (hs.2 hwf q1 q2 H locs la hl hP hS)
theorem xs_ladd (Z : xCtx p R s mI args meth c D tc E X base m d h0 hf) (hd : decode (xmb m) pc = .ok (.ladd, 1)) (hs : xl2 st fun x y r => xZ p l e R s mI args below meth c D tc E base m h0 hf Q (pc + 1) ls (.long (x + y) :: r) h) : xZ p l e R s mI args below meth c D tc E base m h0 hf Q pc ls st h := by
  obtain ⟨hx, hb, hml, hown, hts, hin, hK, hX, hsz, hrc, hrs, hfr, hlo⟩ := Z
  obtain ⟨x, y, r, rfl, hs⟩ := xl2_ex hs
  refine ⟨hs.1, fun hwf q1 q2 H locs la hl hP hS => ?_⟩
  exact lv_ladd hx hb hd (hs.2 hwf q1 q2 H locs la hl hP hS)
theorem xs_lmul (Z : xCtx p R s mI args meth c D tc E X base m d h0 hf) (hd : decode (xmb m) pc = .ok (.lmul, 1)) (hs : xl2 st fun x y r => xZ p l e R s mI args below meth c D tc E base m h0 hf Q (pc + 1) ls (.long (x * y) :: r) h) : xZ p l e R s mI args below meth c D tc E base m h0 hf Q pc ls st h := by
  obtain ⟨hx, hb, hml, hown, hts, hin, hK, hX, hsz, hrc, hrs, hfr, hlo⟩ := Z
  obtain ⟨x, y, r, rfl, hs⟩ := xl2_ex hs
  refine ⟨hs.1, fun hwf q1 q2 H locs la hl hP hS => ?_⟩
  exact lv_lmul hx hb hd (hs.2 hwf q1 q2 H locs la hl hP hS)
theorem xs_ldiv (Z : xCtx p R s mI args meth c D tc E X base m d h0 hf) (hd : decode (xmb m) pc = .ok (.ldiv, 1)) (hs : xl2 st fun x y r => ¬ y = 0 ∧ xZ p l e R s mI args below meth c D tc E base m h0 hf Q (pc + 1) ls (.long (x / y) :: r) h) : xZ p l e R s mI args below meth c D tc E base m h0 hf Q pc ls st h := by
  obtain ⟨hx, hb, hml, hown, hts, hin, hK, hX, hsz, hrc, hrs, hfr, hlo⟩ := Z
  obtain ⟨x, y, r, rfl, k1, hs⟩ := xl2_ex hs
  refine ⟨hs.1, fun hwf q1 q2 H locs la hl hP hS => ?_⟩
  exact lv_ldiv hx hb hd k1 (hs.2 hwf q1 q2 H locs la hl hP hS)
theorem xs_lrem (Z : xCtx p R s mI args meth c D tc E X base m d h0 hf) (hd : decode (xmb m) pc = .ok (.lrem, 1)) (hs : xl2 st fun x y r => ¬ y = 0 ∧ xZ p l e R s mI args below meth c D tc E base m h0 hf Q (pc + 1) ls (.long (x - x / y * y) :: r) h) : xZ p l e R s mI args below meth c D tc E base m h0 hf Q pc ls st h := by
  obtain ⟨hx, hb, hml, hown, hts, hin, hK, hX, hsz, hrc, hrs, hfr, hlo⟩ := Z
  obtain ⟨x, y, r, rfl, k1, hs⟩ := xl2_ex hs
  refine ⟨hs.1, fun hwf q1 q2 H locs la hl hP hS => ?_⟩
  exact lv_lrem hx hb hd k1 (hs.2 hwf q1 q2 H locs la hl hP hS)
theorem xs_lcmp (Z : xCtx p R s mI args meth c D tc E X base m d h0 hf) (hd : decode (xmb m) pc = .ok (.lcmp, 1)) (hs : xl2 st fun x y r => xZ p l e R s mI args below meth c D tc E base m h0 hf Q (pc + 1) ls (.int (lg_cmp x y) :: r) h) : xZ p l e R s mI args below meth c D tc E base m h0 hf Q pc ls st h := by
  obtain ⟨hx, hb, hml, hown, hts, hin, hK, hX, hsz, hrc, hrs, hfr, hlo⟩ := Z
  obtain ⟨x, y, r, rfl, hs⟩ := xl2_ex hs
  refine ⟨hs.1, fun hwf q1 q2 H locs la hl hP hS => ?_⟩
  exact W.lcmp hx hb hd (hs.2 hwf q1 q2 H locs la hl hP hS)
theorem xs_ineg (Z : xCtx p R s mI args meth c D tc E X base m d h0 hf) (hd : decode (xmb m) pc = .ok (.ineg, 1)) (hs : xi1 st fun x r => xZ p l e R s mI args below meth c D tc E base m h0 hf Q (pc + 1) ls (.int (-x) :: r) h) : xZ p l e R s mI args below meth c D tc E base m h0 hf Q pc ls st h := by
  obtain ⟨hx, hb, hml, hown, hts, hin, hK, hX, hsz, hrc, hrs, hfr, hlo⟩ := Z
  obtain ⟨x, r, rfl, hs⟩ := xi1_ex hs
  refine ⟨hs.1, fun hwf q1 q2 H locs la hl hP hS => ?_⟩
  exact lv_ineg hx hb hd (hs.2 hwf q1 q2 H locs la hl hP hS)
theorem xs_i2l (Z : xCtx p R s mI args meth c D tc E X base m d h0 hf) (hd : decode (xmb m) pc = .ok (.i2l, 1)) (hs : xi1 st fun x r => xZ p l e R s mI args below meth c D tc E base m h0 hf Q (pc + 1) ls (.long x.toInt64 :: r) h) : xZ p l e R s mI args below meth c D tc E base m h0 hf Q pc ls st h := by
  obtain ⟨hx, hb, hml, hown, hts, hin, hK, hX, hsz, hrc, hrs, hfr, hlo⟩ := Z
  obtain ⟨x, r, rfl, hs⟩ := xi1_ex hs
  refine ⟨hs.1, fun hwf q1 q2 H locs la hl hP hS => ?_⟩
  exact lv_i2l hx hb hd rfl (hs.2 hwf q1 q2 H locs la hl hP hS)
theorem xs_i2c (Z : xCtx p R s mI args meth c D tc E X base m d h0 hf) (hd : decode (xmb m) pc = .ok (.i2c, 1)) (hs : xi1 st fun x r => xZ p l e R s mI args below meth c D tc E base m h0 hf Q (pc + 1) ls (.int (x.toUInt32 % 65536).toInt32 :: r) h) : xZ p l e R s mI args below meth c D tc E base m h0 hf Q pc ls st h := by
  obtain ⟨hx, hb, hml, hown, hts, hin, hK, hX, hsz, hrc, hrs, hfr, hlo⟩ := Z
  obtain ⟨x, r, rfl, hs⟩ := xi1_ex hs
  refine ⟨hs.1, fun hwf q1 q2 H locs la hl hP hS => ?_⟩
  exact lv_i2c hx hb hd rfl (hs.2 hwf q1 q2 H locs la hl hP hS)
theorem xs_l2i (Z : xCtx p R s mI args meth c D tc E X base m d h0 hf) (hd : decode (xmb m) pc = .ok (.l2i, 1)) (hs : xl1 st fun x r => xZ p l e R s mI args below meth c D tc E base m h0 hf Q (pc + 1) ls (.int x.toInt32 :: r) h) : xZ p l e R s mI args below meth c D tc E base m h0 hf Q pc ls st h := by
  obtain ⟨hx, hb, hml, hown, hts, hin, hK, hX, hsz, hrc, hrs, hfr, hlo⟩ := Z
  obtain ⟨x, r, rfl, hs⟩ := xl1_ex hs
  refine ⟨hs.1, fun hwf q1 q2 H locs la hl hP hS => ?_⟩
  exact lv_l2i hx hb hd rfl (hs.2 hwf q1 q2 H locs la hl hP hS)
theorem xs_dup (Z : xCtx p R s mI args meth c D tc E X base m d h0 hf) (hd : decode (xmb m) pc = .ok (.dup, 1)) (hs : xv1 st fun v r => v.category = 1 ∧ xZ p l e R s mI args below meth c D tc E base m h0 hf Q (pc + 1) ls (v :: v :: r) h) : xZ p l e R s mI args below meth c D tc E base m h0 hf Q pc ls st h := by
  obtain ⟨hx, hb, hml, hown, hts, hin, hK, hX, hsz, hrc, hrs, hfr, hlo⟩ := Z
  obtain ⟨x, r, rfl, k1, hs⟩ := xv1_ex hs
  refine ⟨hs.1, fun hwf q1 q2 H locs la hl hP hS => ?_⟩
  exact lv_dup hx hb hd (xc_cat.trans k1) (hs.2 hwf q1 q2 H locs la hl hP hS)
theorem xs_pop (Z : xCtx p R s mI args meth c D tc E X base m d h0 hf) (hd : decode (xmb m) pc = .ok (.pop, 1)) (hs : xv1 st fun v r => v.category = 1 ∧ xZ p l e R s mI args below meth c D tc E base m h0 hf Q (pc + 1) ls r h) : xZ p l e R s mI args below meth c D tc E base m h0 hf Q pc ls st h := by
  obtain ⟨hx, hb, hml, hown, hts, hin, hK, hX, hsz, hrc, hrs, hfr, hlo⟩ := Z
  obtain ⟨x, r, rfl, k1, hs⟩ := xv1_ex hs
  refine ⟨hs.1, fun hwf q1 q2 H locs la hl hP hS => ?_⟩
  exact lv_pop hx hb hd (xc_cat.trans k1) (hs.2 hwf q1 q2 H locs la hl hP hS)
theorem xs_dup2 (Z : xCtx p R s mI args meth c D tc E X base m d h0 hf) {a b : Value} {r : List Value} (hd : decode (xmb m) pc = .ok (.dup2, 1)) (k1 : a.category = 1) (k2 : b.category = 1) (hs : xZ p l e R s mI args below meth c D tc E base m h0 hf Q (pc + 1) ls (a :: b :: a :: b :: r) h) : xZ p l e R s mI args below meth c D tc E base m h0 hf Q pc ls (a :: b :: r) h := by
  obtain ⟨hx, hb, hml, hown, hts, hin, hK, hX, hsz, hrc, hrs, hfr, hlo⟩ := Z
  refine ⟨hs.1, fun hwf q1 q2 H locs la hl hP hS => ?_⟩
  exact lv_dup2_11 hx hb hd (xc_cat.trans k1) (xc_cat.trans k2) (hs.2 hwf q1 q2 H locs la hl hP hS)
theorem xs_ifCond_eq {off : Int} {t : Nat} (ht : (pc : Int) + off = (t : Int)) (Z : xCtx p R s mI args meth c D tc E X base m d h0 hf) (hd : decode (xmb m) pc = .ok (.ifCond .eq off, 3)) (hs : xi1 st fun x r => if x = 0 then xZ p l e R s mI args below meth c D tc E base m h0 hf Q t ls r h else xZ p l e R s mI args below meth c D tc E base m h0 hf Q (pc + 3) ls r h) : xZ p l e R s mI args below meth c D tc E base m h0 hf Q pc ls st h := by
  obtain ⟨hx, hb, hml, hown, hts, hin, hK, hX, hsz, hrc, hrs, hfr, hlo⟩ := Z
  obtain ⟨x, r, rfl, hq⟩ := xi1_ex hs
  by_cases q : x = 0
  · rw [if_pos q] at hq
    refine ⟨hq.1, fun hwf q1 q2 H locs la hl hP hS => ?_⟩
    exact lv_if_eq hx hb hd ht (fun _ => hq.2 hwf q1 q2 H locs la hl hP hS) (fun z => absurd q z)
  · rw [if_neg q] at hq
    refine ⟨hq.1, fun hwf q1 q2 H locs la hl hP hS => ?_⟩
    exact lv_if_eq hx hb hd ht (fun z => absurd z q) (fun _ => hq.2 hwf q1 q2 H locs la hl hP hS)

theorem xs_ifCond_ne {off : Int} {t : Nat} (ht : (pc : Int) + off = (t : Int)) (Z : xCtx p R s mI args meth c D tc E X base m d h0 hf) (hd : decode (xmb m) pc = .ok (.ifCond .ne off, 3)) (hs : xi1 st fun x r => if x = 0 then xZ p l e R s mI args below meth c D tc E base m h0 hf Q (pc + 3) ls r h else xZ p l e R s mI args below meth c D tc E base m h0 hf Q t ls r h) : xZ p l e R s mI args below meth c D tc E base m h0 hf Q pc ls st h := by
  obtain ⟨hx, hb, hml, hown, hts, hin, hK, hX, hsz, hrc, hrs, hfr, hlo⟩ := Z
  obtain ⟨x, r, rfl, hq⟩ := xi1_ex hs
  by_cases q : x = 0
  · rw [if_pos q] at hq
    refine ⟨hq.1, fun hwf q1 q2 H locs la hl hP hS => ?_⟩
    exact lv_if_ne hx hb hd ht (fun z => absurd q z) (fun _ => hq.2 hwf q1 q2 H locs la hl hP hS)
  · rw [if_neg q] at hq
    refine ⟨hq.1, fun hwf q1 q2 H locs la hl hP hS => ?_⟩
    exact lv_if_ne hx hb hd ht (fun _ => hq.2 hwf q1 q2 H locs la hl hP hS) (fun z => absurd z q)

theorem xs_ifCond_lt {off : Int} {t : Nat} (ht : (pc : Int) + off = (t : Int)) (Z : xCtx p R s mI args meth c D tc E X base m d h0 hf) (hd : decode (xmb m) pc = .ok (.ifCond .lt off, 3)) (hs : xi1 st fun x r => if x < 0 then xZ p l e R s mI args below meth c D tc E base m h0 hf Q t ls r h else xZ p l e R s mI args below meth c D tc E base m h0 hf Q (pc + 3) ls r h) : xZ p l e R s mI args below meth c D tc E base m h0 hf Q pc ls st h := by
  obtain ⟨hx, hb, hml, hown, hts, hin, hK, hX, hsz, hrc, hrs, hfr, hlo⟩ := Z
  obtain ⟨x, r, rfl, hq⟩ := xi1_ex hs
  by_cases q : x < 0
  · rw [if_pos q] at hq
    refine ⟨hq.1, fun hwf q1 q2 H locs la hl hP hS => ?_⟩
    exact lv_if_lt hx hb hd ht (fun _ => hq.2 hwf q1 q2 H locs la hl hP hS) (fun z => absurd q z)
  · rw [if_neg q] at hq
    refine ⟨hq.1, fun hwf q1 q2 H locs la hl hP hS => ?_⟩
    exact lv_if_lt hx hb hd ht (fun z => absurd z q) (fun _ => hq.2 hwf q1 q2 H locs la hl hP hS)

theorem xs_ifCond_ge {off : Int} {t : Nat} (ht : (pc : Int) + off = (t : Int)) (Z : xCtx p R s mI args meth c D tc E X base m d h0 hf) (hd : decode (xmb m) pc = .ok (.ifCond .ge off, 3)) (hs : xi1 st fun x r => if 0 ≤ x then xZ p l e R s mI args below meth c D tc E base m h0 hf Q t ls r h else xZ p l e R s mI args below meth c D tc E base m h0 hf Q (pc + 3) ls r h) : xZ p l e R s mI args below meth c D tc E base m h0 hf Q pc ls st h := by
  obtain ⟨hx, hb, hml, hown, hts, hin, hK, hX, hsz, hrc, hrs, hfr, hlo⟩ := Z
  obtain ⟨x, r, rfl, hq⟩ := xi1_ex hs
  by_cases q : 0 ≤ x
  · rw [if_pos q] at hq
    refine ⟨hq.1, fun hwf q1 q2 H locs la hl hP hS => ?_⟩
    exact lv_if_ge hx hb hd ht (fun _ => hq.2 hwf q1 q2 H locs la hl hP hS) (fun z => absurd q z)
  · rw [if_neg q] at hq
    refine ⟨hq.1, fun hwf q1 q2 H locs la hl hP hS => ?_⟩
    exact lv_if_ge hx hb hd ht (fun z => absurd z q) (fun _ => hq.2 hwf q1 q2 H locs la hl hP hS)

theorem xs_ifCond_gt {off : Int} {t : Nat} (ht : (pc : Int) + off = (t : Int)) (Z : xCtx p R s mI args meth c D tc E X base m d h0 hf) (hd : decode (xmb m) pc = .ok (.ifCond .gt off, 3)) (hs : xi1 st fun x r => if 0 < x then xZ p l e R s mI args below meth c D tc E base m h0 hf Q t ls r h else xZ p l e R s mI args below meth c D tc E base m h0 hf Q (pc + 3) ls r h) : xZ p l e R s mI args below meth c D tc E base m h0 hf Q pc ls st h := by
  obtain ⟨hx, hb, hml, hown, hts, hin, hK, hX, hsz, hrc, hrs, hfr, hlo⟩ := Z
  obtain ⟨x, r, rfl, hq⟩ := xi1_ex hs
  by_cases q : 0 < x
  · rw [if_pos q] at hq
    refine ⟨hq.1, fun hwf q1 q2 H locs la hl hP hS => ?_⟩
    exact lv_if_gt hx hb hd ht (fun _ => hq.2 hwf q1 q2 H locs la hl hP hS) (fun z => absurd q z)
  · rw [if_neg q] at hq
    refine ⟨hq.1, fun hwf q1 q2 H locs la hl hP hS => ?_⟩
    exact lv_if_gt hx hb hd ht (fun z => absurd z q) (fun _ => hq.2 hwf q1 q2 H locs la hl hP hS)

theorem xs_ifCond_le {off : Int} {t : Nat} (ht : (pc : Int) + off = (t : Int)) (Z : xCtx p R s mI args meth c D tc E X base m d h0 hf) (hd : decode (xmb m) pc = .ok (.ifCond .le off, 3)) (hs : xi1 st fun x r => if x ≤ 0 then xZ p l e R s mI args below meth c D tc E base m h0 hf Q t ls r h else xZ p l e R s mI args below meth c D tc E base m h0 hf Q (pc + 3) ls r h) : xZ p l e R s mI args below meth c D tc E base m h0 hf Q pc ls st h := by
  obtain ⟨hx, hb, hml, hown, hts, hin, hK, hX, hsz, hrc, hrs, hfr, hlo⟩ := Z
  obtain ⟨x, r, rfl, hq⟩ := xi1_ex hs
  by_cases q : x ≤ 0
  · rw [if_pos q] at hq
    refine ⟨hq.1, fun hwf q1 q2 H locs la hl hP hS => ?_⟩
    exact lv_if_le hx hb hd ht (fun _ => hq.2 hwf q1 q2 H locs la hl hP hS) (fun z => absurd q z)
  · rw [if_neg q] at hq
    refine ⟨hq.1, fun hwf q1 q2 H locs la hl hP hS => ?_⟩
    exact lv_if_le hx hb hd ht (fun z => absurd z q) (fun _ => hq.2 hwf q1 q2 H locs la hl hP hS)

theorem xs_if_icmp_eq {off : Int} {t : Nat} (ht : (pc : Int) + off = (t : Int)) (Z : xCtx p R s mI args meth c D tc E X base m d h0 hf) (hd : decode (xmb m) pc = .ok (.if_icmp .eq off, 3)) (hs : xi2 st fun x y r => if x = y then xZ p l e R s mI args below meth c D tc E base m h0 hf Q t ls r h else xZ p l e R s mI args below meth c D tc E base m h0 hf Q (pc + 3) ls r h) : xZ p l e R s mI args below meth c D tc E base m h0 hf Q pc ls st h := by
  obtain ⟨hx, hb, hml, hown, hts, hin, hK, hX, hsz, hrc, hrs, hfr, hlo⟩ := Z
  obtain ⟨x, y, r, rfl, hq⟩ := xi2_ex hs
  by_cases q : x = y
  · rw [if_pos q] at hq
    refine ⟨hq.1, fun hwf q1 q2 H locs la hl hP hS => ?_⟩
    exact lv_icmp_eq hx hb hd ht (fun _ => hq.2 hwf q1 q2 H locs la hl hP hS) (fun z => absurd q z)
  · rw [if_neg q] at hq
    refine ⟨hq.1, fun hwf q1 q2 H locs la hl hP hS => ?_⟩
    exact lv_icmp_eq hx hb hd ht (fun z => absurd z q) (fun _ => hq.2 hwf q1 q2 H locs la hl hP hS)

theorem xs_if_icmp_ne {off : Int} {t : Nat} (ht : (pc : Int) + off = (t : Int)) (Z : xCtx p R s mI args meth c D tc E X base m d h0 hf) (hd : decode (xmb m) pc = .ok (.if_icmp .ne off, 3)) (hs : xi2 st fun x y r => if x = y then xZ p l e R s mI args below meth c D tc E base m h0 hf Q (pc + 3) ls r h else xZ p l e R s mI args below meth c D tc E base m h0 hf Q t ls r h) : xZ p l e R s mI args below meth c D tc E base m h0 hf Q pc ls st h := by
  obtain ⟨hx, hb, hml, hown, hts, hin, hK, hX, hsz, hrc, hrs, hfr, hlo⟩ := Z
  obtain ⟨x, y, r, rfl, hq⟩ := xi2_ex hs
  by_cases q : x = y
  · rw [if_pos q] at hq
    refine ⟨hq.1, fun hwf q1 q2 H locs la hl hP hS => ?_⟩
    exact lv_icmp_ne hx hb hd ht (fun z => absurd q z) (fun _ => hq.2 hwf q1 q2 H locs la hl hP hS)
  · rw [if_neg q] at hq
    refine ⟨hq.1, fun hwf q1 q2 H locs la hl hP hS => ?_⟩
    exact lv_icmp_ne hx hb hd ht (fun _ => hq.2 hwf q1 q2 H locs la hl hP hS) (fun z => absurd z q)

theorem xs_if_icmp_lt {off : Int} {t : Nat} (ht : (pc : Int) + off = (t : Int)) (Z : xCtx p R s mI args meth c D tc E X base m d h0 hf) (hd : decode (xmb m) pc = .ok (.if_icmp .lt off, 3)) (hs : xi2 st fun x y r => if x < y then xZ p l e R s mI args below meth c D tc E base m h0 hf Q t ls r h else xZ p l e R s mI args below meth c D tc E base m h0 hf Q (pc + 3) ls r h) : xZ p l e R s mI args below meth c D tc E base m h0 hf Q pc ls st h := by
  obtain ⟨hx, hb, hml, hown, hts, hin, hK, hX, hsz, hrc, hrs, hfr, hlo⟩ := Z
  obtain ⟨x, y, r, rfl, hq⟩ := xi2_ex hs
  by_cases q : x < y
  · rw [if_pos q] at hq
    refine ⟨hq.1, fun hwf q1 q2 H locs la hl hP hS => ?_⟩
    exact lv_icmp_lt hx hb hd ht (fun _ => hq.2 hwf q1 q2 H locs la hl hP hS) (fun z => absurd q z)
  · rw [if_neg q] at hq
    refine ⟨hq.1, fun hwf q1 q2 H locs la hl hP hS => ?_⟩
    exact lv_icmp_lt hx hb hd ht (fun z => absurd z q) (fun _ => hq.2 hwf q1 q2 H locs la hl hP hS)

theorem xs_if_icmp_ge {off : Int} {t : Nat} (ht : (pc : Int) + off = (t : Int)) (Z : xCtx p R s mI args meth c D tc E X base m d h0 hf) (hd : decode (xmb m) pc = .ok (.if_icmp .ge off, 3)) (hs : xi2 st fun x y r => if y ≤ x then xZ p l e R s mI args below meth c D tc E base m h0 hf Q t ls r h else xZ p l e R s mI args below meth c D tc E base m h0 hf Q (pc + 3) ls r h) : xZ p l e R s mI args below meth c D tc E base m h0 hf Q pc ls st h := by
  obtain ⟨hx, hb, hml, hown, hts, hin, hK, hX, hsz, hrc, hrs, hfr, hlo⟩ := Z
  obtain ⟨x, y, r, rfl, hq⟩ := xi2_ex hs
  by_cases q : y ≤ x
  · rw [if_pos q] at hq
    refine ⟨hq.1, fun hwf q1 q2 H locs la hl hP hS => ?_⟩
    exact lv_icmp_ge hx hb hd ht (fun _ => hq.2 hwf q1 q2 H locs la hl hP hS) (fun z => absurd q z)
  · rw [if_neg q] at hq
    refine ⟨hq.1, fun hwf q1 q2 H locs la hl hP hS => ?_⟩
    exact lv_icmp_ge hx hb hd ht (fun z => absurd z q) (fun _ => hq.2 hwf q1 q2 H locs la hl hP hS)

theorem xs_if_icmp_gt {off : Int} {t : Nat} (ht : (pc : Int) + off = (t : Int)) (Z : xCtx p R s mI args meth c D tc E X base m d h0 hf) (hd : decode (xmb m) pc = .ok (.if_icmp .gt off, 3)) (hs : xi2 st fun x y r => if y < x then xZ p l e R s mI args below meth c D tc E base m h0 hf Q t ls r h else xZ p l e R s mI args below meth c D tc E base m h0 hf Q (pc + 3) ls r h) : xZ p l e R s mI args below meth c D tc E base m h0 hf Q pc ls st h := by
  obtain ⟨hx, hb, hml, hown, hts, hin, hK, hX, hsz, hrc, hrs, hfr, hlo⟩ := Z
  obtain ⟨x, y, r, rfl, hq⟩ := xi2_ex hs
  by_cases q : y < x
  · rw [if_pos q] at hq
    refine ⟨hq.1, fun hwf q1 q2 H locs la hl hP hS => ?_⟩
    exact lv_icmp_gt hx hb hd ht (fun _ => hq.2 hwf q1 q2 H locs la hl hP hS) (fun z => absurd q z)
  · rw [if_neg q] at hq
    refine ⟨hq.1, fun hwf q1 q2 H locs la hl hP hS => ?_⟩
    exact lv_icmp_gt hx hb hd ht (fun z => absurd z q) (fun _ => hq.2 hwf q1 q2 H locs la hl hP hS)

theorem xs_if_icmp_le {off : Int} {t : Nat} (ht : (pc : Int) + off = (t : Int)) (Z : xCtx p R s mI args meth c D tc E X base m d h0 hf) (hd : decode (xmb m) pc = .ok (.if_icmp .le off, 3)) (hs : xi2 st fun x y r => if x ≤ y then xZ p l e R s mI args below meth c D tc E base m h0 hf Q t ls r h else xZ p l e R s mI args below meth c D tc E base m h0 hf Q (pc + 3) ls r h) : xZ p l e R s mI args below meth c D tc E base m h0 hf Q pc ls st h := by
  obtain ⟨hx, hb, hml, hown, hts, hin, hK, hX, hsz, hrc, hrs, hfr, hlo⟩ := Z
  obtain ⟨x, y, r, rfl, hq⟩ := xi2_ex hs
  by_cases q : x ≤ y
  · rw [if_pos q] at hq
    refine ⟨hq.1, fun hwf q1 q2 H locs la hl hP hS => ?_⟩
    exact lv_icmp_le hx hb hd ht (fun _ => hq.2 hwf q1 q2 H locs la hl hP hS) (fun z => absurd q z)
  · rw [if_neg q] at hq
    refine ⟨hq.1, fun hwf q1 q2 H locs la hl hP hS => ?_⟩
    exact lv_icmp_le hx hb hd ht (fun z => absurd z q) (fun _ => hq.2 hwf q1 q2 H locs la hl hP hS)

theorem xs_goto {off : Int} {t : Nat} (ht : (pc : Int) + off = (t : Int)) (Z : xCtx p R s mI args meth c D tc E X base m d h0 hf) (hd : decode (xmb m) pc = .ok (.goto off, 3)) (hs : xZ p l e R s mI args below meth c D tc E base m h0 hf Q t ls st h) : xZ p l e R s mI args below meth c D tc E base m h0 hf Q pc ls st h := by
  obtain ⟨hx, hb, hml, hown, hts, hin, hK, hX, hsz, hrc, hrs, hfr, hlo⟩ := Z
  refine ⟨hs.1, fun hwf q1 q2 H locs la hl hP hS => ?_⟩
  exact lv_goto hx hb hd ht (hs.2 hwf q1 q2 H locs la hl hP hS)
theorem xs_nonnull1 (Z : xCtx p R s mI args meth c D tc E X base m d h0 hf) {off : Int} {t a : Nat} {r : List Value} (ht : (pc : Int) + off = (t : Int)) (hd : decode (xmb m) pc = .ok (.ifnonnull off, 3)) (hs : xZ p l e R s mI args below meth c D tc E base m h0 hf Q t ls r h) : xZ p l e R s mI args below meth c D tc E base m h0 hf Q pc ls (.ref a :: r) h := by
  obtain ⟨hx, hb, hml, hown, hts, hin, hK, hX, hsz, hrc, hrs, hfr, hlo⟩ := Z
  refine ⟨hs.1, fun hwf q1 q2 H locs la hl hP hS => ?_⟩
  exact lv_ifnonnull hx hb hd ht (hs.2 hwf q1 q2 H locs la hl hP hS)
theorem xs_nonnull0 (Z : xCtx p R s mI args meth c D tc E X base m d h0 hf) {off : Int} {r : List Value} (hd : decode (xmb m) pc = .ok (.ifnonnull off, 3)) (hs : xZ p l e R s mI args below meth c D tc E base m h0 hf Q (pc + 3) ls r h) : xZ p l e R s mI args below meth c D tc E base m h0 hf Q pc ls (.null :: r) h := by
  obtain ⟨hx, hb, hml, hown, hts, hin, hK, hX, hsz, hrc, hrs, hfr, hlo⟩ := Z
  refine ⟨hs.1, fun hwf q1 q2 H locs la hl hP hS => ?_⟩
  exact lv_ifnonnullN hx hb hd (hs.2 hwf q1 q2 H locs la hl hP hS)
end XS
