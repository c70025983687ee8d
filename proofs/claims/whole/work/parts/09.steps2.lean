/-! Steps that look at cells, make them, call. -/
theorem xcls_hin {ci : Nat} {C : String} {T : u_T} {N : Nat} (h : xcls[ci]? = some (C, T, N)) : ∀ w ∈ u_ws C T N, w ∈ xTB := by
  match ci, h with
  | 0, h => cases h; exact xin0
  | 1, h => cases h; exact xin1
  | 2, h => cases h; exact xin2
  | 3, h => cases h; exact xin3
  | 4, h => cases h; exact xin4
  | 5, h => cases h; exact xin5
  | 6, h => cases h; exact xin6
  | 7, h => cases h; exact xin7
  | n + 8, h =>
    rw [List.getElem?_eq_none (by show (8 : Nat) ≤ n + 8; omega)] at h
    cases h
def xty (T : u_T) (k : Nat) : FieldType := (parseFieldDescriptor (T k).2.2.1).getD .int
def xtyp (ci : Nat) (C : String) (T : u_T) (N : Nat) : Prop := (∀ k, k < N → parseFieldDescriptor (T k).2.2.1 = some (xty T k)) ∧ (∀ a, a < N → ∀ b, b < N → a ≠ b → (T a).2.1 ≠ (T b).2.1) ∧ (∀ k, k < N → (T k).1 = C) ∧ (xdef.getD ci []).length = N ∧ ∀ j, j < N → defaultValue (xty T j) = vp_V (xdef.getD ci []) j
theorem xtyp0 : xtyp 0 "PaintedTown" xT0 11 := ⟨by decide +kernel, by decide +kernel, by decide +kernel, rfl, by decide +kernel⟩
theorem xtyp1 : xtyp 1 "PaintedTown$Script" xT1 7 := ⟨by decide +kernel, by decide +kernel, by decide +kernel, rfl, by decide +kernel⟩
theorem xtyp2 : xtyp 2 "PaintedTown$Painting" xT2 5 := ⟨by decide +kernel, by decide +kernel, by decide +kernel, rfl, by decide +kernel⟩
theorem xtyp3 : xtyp 3 "PaintedTown$Town" xT3 6 := ⟨by decide +kernel, by decide +kernel, by decide +kernel, rfl, by decide +kernel⟩
theorem xtyp4 : xtyp 4 "PaintedTown$Past" xT4 3 := ⟨by decide +kernel, by decide +kernel, by decide +kernel, rfl, by decide +kernel⟩
theorem xtyp5 : xtyp 5 "PaintedTown$Judge" xT5 6 := ⟨by decide +kernel, by decide +kernel, by decide +kernel, rfl, by decide +kernel⟩
theorem xtyp6 : xtyp 6 "PaintedTown$Search" xT6 9 := ⟨by decide +kernel, by decide +kernel, by decide +kernel, rfl, by decide +kernel⟩
theorem xtyp7 : xtyp 7 "PaintedTownModel" xT7 19 := ⟨by decide +kernel, by decide +kernel, by decide +kernel, rfl, by decide +kernel⟩
theorem xtyp_of {ci : Nat} {C : String} {T : u_T} {N : Nat} (h : xcls[ci]? = some (C, T, N)) : xtyp ci C T N := by
  match ci, h with
  | 0, h => cases h; exact xtyp0
  | 1, h => cases h; exact xtyp1
  | 2, h => cases h; exact xtyp2
  | 3, h => cases h; exact xtyp3
  | 4, h => cases h; exact xtyp4
  | 5, h => cases h; exact xtyp5
  | 6, h => cases h; exact xtyp6
  | 7, h => cases h; exact xtyp7
  | n + 8, h =>
    rw [List.getElem?_eq_none (by show (8 : Nat) ≤ n + 8; omega)] at h
    cases h
theorem xdef_map {E : Nat → Nat} {base : Nat} : ∀ (ci : Nat), (xdef.getD ci []).map (xc E base) = xdef.getD ci []
  | 0 => rfl
  | 1 => rfl
  | 2 => rfl
  | 3 => rfl
  | 4 => rfl
  | 5 => rfl
  | 6 => rfl
  | 7 => rfl
  | n + 8 => by
    have e : xdef.getD (n + 8) [] = [] := by
      rw [List.getD_eq_getElem?_getD, List.getElem?_eq_none (by show (8 : Nat) ≤ n + 8; omega)]
      rfl
    rw [e]
    rfl
theorem okf_ex {own : String} {idx ci k w : Nat} (h : okf own idx ci k w = true) : ∃ C T N, xcls[ci]? = some (C, T, N) ∧ k < N ∧ Cond.fieldLink own idx C (T k).2.1 (T k).2.2.1 ∈ xTB := by
  unfold okf at h
  split at h
  · rename_i C T N e
    simp only [Bool.and_eq_true, decide_eq_true_eq] at h
    exact ⟨C, T, N, e, h.1, okw_of h.2⟩
  · cases h
theorem x_nar {E : Nat → Nat} {base : Nat} {ty : FieldType} {v : Value} (h : narrow ty v = v) (hf : fits ty v = true) : narrow ty (xc E base v) = xc E base v ∧ fits ty (xc E base v) = true := by
  cases v with
  | ref a => cases ty <;> first | exact ⟨rfl, rfl⟩ | exact absurd hf (by simp [fits])
  | retAddr a => cases ty <;> exact absurd hf (by simp [fits])
  | _ => exact ⟨h, hf⟩
theorem xrf_c {E : Nat → Nat} {base : Nat} (o : Option Nat) : xc E base (va_rf o) = va_rf (o.map (fun x => base + x)) := by cases o <;> rfl
section XS2
variable {p : Program} {l : Launch} {e : Env} {R : Room} {s : State} {mI : MethodId} {args : Array Value} {below : List Frame} {meth : Method} {c : Code} {D : va_G} {tc : Nat → ClassId} {E : Nat → Nat} {X : Nat × (Nat → Int32)} {base m d : Nat} {h0 hf : xHp} {Q : State → Prop}
variable {pc : Nat} {ls st : List Value} {h : xHp}
theorem xs_getfield {idx ci k w : Nat} (Z : xCtx p R s mI args meth c D tc E X base m d h0 hf) (hd : decode (xmb m) pc = .ok (.getfield idx, 3)) (hok : okf (xmn m).cls idx ci k w = true) (hs : xr1 st fun a r => xob (hg h a) ci fun fs => xsm fs[k]? fun v => xZ p l e R s mI args below meth c D tc E base m h0 hf Q (pc + 3) ls (v :: r) h) : xZ p l e R s mI args below meth c D tc E base m h0 hf Q pc ls st h := by
  obtain ⟨hx, hb, hml, hown, hts, hin, hK, hX, hsz, hrc, hrs, hfr, hlo⟩ := Z
  obtain ⟨a, r, rfl, hs⟩ := xr1_ex hs
  obtain ⟨fs, e, hs⟩ := xob_ex hs
  obtain ⟨v, ev, hs⟩ := xsm_ex hs
  obtain ⟨C, T, N, hc, hk, hw⟩ := okf_ex hok
  obtain ⟨t1, t2, t3, t4, t5⟩ := xtyp_of hc
  refine ⟨hs.1, fun hwf q1 q2 H locs la hl hP hS => ?_⟩
  exact va_get (fs := fs.map (xc E base)) (v := xc E base v) hx hb hts (xcls_hin hc) hown hK hP a (xw_at e (hwf.2 _ _ e)) hc k hk (hts _ hw) (fun _ h9 => by rw [t3 k hk] at h9; exact h9) (by rw [List.getElem?_map, ev]; rfl) hd (hs.2 hwf q1 q2 H locs la hl hP hS)
theorem xs_getstr {idx k w : Nat} {r : List Value} (Z : xCtx p R s mI args meth c D tc E X base m d h0 hf) (hd : decode (xmb m) pc = .ok (.getfield idx, 3)) (hok : okw w (if k = 0 then .fieldLink (xmn m).cls idx "java/lang/String" "value" "[B" else .fieldLink (xmn m).cls idx "java/lang/String" "coder" "B") = true) (hs : if k = 0 then xZ p l e R s mI args below meth c D tc E base m h0 hf Q (pc + 3) ls (.retAddr 1 :: r) h else xZ p l e R s mI args below meth c D tc E base m h0 hf Q (pc + 3) ls (.int 0 :: r) h) : xZ p l e R s mI args below meth c D tc E base m h0 hf Q pc ls (.retAddr 0 :: r) h := by
  obtain ⟨hx, hb, hml, hown, hts, hin, hK, hX, hsz, hrc, hrs, hfr, hlo⟩ := Z
  have hw := hts _ (okw_of hok)
  by_cases hk : k = 0
  · rw [if_pos hk] at hs hw
    refine ⟨hs.1, fun hwf q1 q2 H locs la hl hP hS => ?_⟩
    exact vk_getf hx hb hX.2.2.2.2.2.1 hS hown hw (fun _ h9 => h9) hd (hs.2 hwf q1 q2 H locs la hl hP hS)
  · rw [if_neg hk] at hs hw
    refine ⟨hs.1, fun hwf q1 q2 H locs la hl hP hS => ?_⟩
    exact vk_getf hx hb hX.2.2.2.2.1 hS hown hw (fun _ h9 => h9) hd (hs.2 hwf q1 q2 H locs la hl hP hS)
theorem xs_putfield {idx ci k w a : Nat} {v : Value} {r : List Value} (Z : xCtx p R s mI args meth c D tc E X base m d h0 hf) (hd : decode (xmb m) pc = .ok (.putfield idx, 3)) (hok : okf (xmn m).cls idx ci k w = true) (hfin : (match xcls[ci]? with
    | some (C, T, _) => !(T k).2.2.2 || (decide ((xmn m).name = "<init>") && decide (C = (xmn m).cls))
    | none => false) = true) (hs : xob (hg h a) ci fun fs => k < fs.length ∧ xfit ci k v ∧ xZ p l e R s mI args below meth c D tc E base m h0 hf Q (pc + 3) ls r (xset h a (.inr (ci, fs.set k v)))) : xZ p l e R s mI args below meth c D tc E base m h0 hf Q pc ls (v :: .ref a :: r) h := by
  obtain ⟨hx, hb, hml, hown, hts, hin, hK, hX, hsz, hrc, hrs, hfr, hlo⟩ := Z
  obtain ⟨fs, e, hl0, hfit, hs⟩ := xob_ex hs
  obtain ⟨C, T, N, hc, hk, hw⟩ := okf_ex hok
  obtain ⟨t1, t2, t3, t4, t5⟩ := xtyp_of hc
  unfold xfit at hfit
  rw [hc] at hfin hfit
  dsimp only at hfin hfit
  rw [t1 k hk] at hfit
  dsimp only at hfit
  obtain ⟨f1, f2⟩ := x_nar (E := E) (base := base) hfit.1 hfit.2
  refine ⟨hs.1, fun hwf q1 q2 H locs la hl hP hS => ?_⟩
  have ha := hwf.2 _ _ e
  have kk : ∀ (H1 : Heap) (locs1 : List Loc), va_P D xcls ((xw E base tc h).set a (base + a, .inr (ci, (fs.map (xc E base)).set k (xc E base v)))) H1 → va_D (xA base) ((xw E base tc h).set a (base + a, .inr (ci, (fs.map (xc E base)).set k (xc E base v)))) → va_S (xA base) s.heap H1 locs1 → W p l ‹Env› R s mI args below meth c H1 locs1 (h.1 - h0.1) (h.2.1 - h0.2.1) Q (F0 mI (pc + 3) la (r.map (xc E base))) := by
    intro H1 locs1 hP1 _ hS1
    have e1 : (base + a, (Sum.inr (ci, (fs.map (xc E base)).set k (xc E base v)) : va_E)) = (base + a, xE E base tc (.inr (ci, fs.set k v))) := by
      show _ = (base + a, (Sum.inr (ci, (fs.set k v).map (xc E base)) : va_E))
      rw [List.map_set]
    rw [e1, xw_set ha] at hP1
    exact hs.2 (xWF_set hwf e) q1 q2 H1 locs1 la hl hP1 hS1
  cases hb2 : (T k).2.2.2 with
  | false => exact va_put (fs := fs.map (xc E base)) hx hb hts (xcls_hin hc) (xty T) t1 t2 hown hK hP xw_D hS a (xw_at e ha) hc k hk (hts _ hw) (fun _ h9 => by rw [t3 k hk] at h9; exact h9) hb2 (t1 k hk) f1 f2 (by rw [List.length_map]; exact hl0) hd kk
  | true =>
    rw [hb2] at hfin
    simp only [Bool.not_true, Bool.false_or, Bool.and_eq_true, decide_eq_true_eq] at hfin
    exact va_putF (fs := fs.map (xc E base)) hx hb hts (xcls_hin hc) (xty T) t1 t2 hown hK hP xw_D hS a (xw_at e ha) hc k hk (hts _ hw) (fun _ h9 => by rw [t3 k hk] at h9; exact h9) hb2 (hin hfin.1) ((t3 k hk).trans hfin.2) (t1 k hk) f1 f2 (by rw [List.length_map]; exact hl0) hd kk
theorem xs_gets0 {idx w : Nat} (Z : xCtx p R s mI args meth c D tc E X base m d h0 hf) (hd : decode (xmb m) pc = .ok (.getstatic idx, 3)) (hok : okw w (.fieldLink (xmn m).cls idx "PaintedTown" "SIZES" "[I") = true) (hs : xZ p l e R s mI args below meth c D tc E base m h0 hf Q (pc + 3) ls (.retAddr 2 :: st) h) : xZ p l e R s mI args below meth c D tc E base m h0 hf Q pc ls st h := by
  obtain ⟨hx, hb, hml, hown, hts, hin, hK, hX, hsz, hrc, hrs, hfr, hlo⟩ := Z
  refine ⟨hs.1, fun hwf q1 q2 H locs la hl hP hS => ?_⟩
  exact va_gets hx hb hX.1 hS hown (hts _ (okw_of hok)) (fun _ h9 => h9) hd (hs.2 hwf q1 q2 H locs la hl hP hS)
theorem xs_gets1 {idx w : Nat} (Z : xCtx p R s mI args meth c D tc E X base m d h0 hf) (hd : decode (xmb m) pc = .ok (.getstatic idx, 3)) (hok : okw w (.fieldLink (xmn m).cls idx "java/lang/String" "COMPACT_STRINGS" "Z") = true) (hs : xZ p l e R s mI args below meth c D tc E base m h0 hf Q (pc + 3) ls (.int 1 :: st) h) : xZ p l e R s mI args below meth c D tc E base m h0 hf Q pc ls st h := by
  obtain ⟨hx, hb, hml, hown, hts, hin, hK, hX, hsz, hrc, hrs, hfr, hlo⟩ := Z
  refine ⟨hs.1, fun hwf q1 q2 H locs la hl hP hS => ?_⟩
  exact va_gets hx hb hX.2.2.2.2.2.2.2.1 hS hown (hts _ (okw_of hok)) (fun _ h9 => h9) hd (hs.2 hwf q1 q2 H locs la hl hP hS)
theorem xs_gets2 {idx w : Nat} (Z : xCtx p R s mI args meth c D tc E X base m d h0 hf) (hd : decode (xmb m) pc = .ok (.getstatic idx, 3)) (hok : okw w (.fieldLink (xmn m).cls idx "jdk/internal/util/Preconditions" "SIOOBE_FORMATTER" "Ljava/util/function/BiFunction;") = true) (hs : xZ p l e R s mI args below meth c D tc E base m h0 hf Q (pc + 3) ls (xnf X :: st) h) : xZ p l e R s mI args below meth c D tc E base m h0 hf Q pc ls st h := by
  obtain ⟨hx, hb, hml, hown, hts, hin, hK, hX, hsz, hrc, hrs, hfr, hlo⟩ := Z
  refine ⟨hs.1, fun hwf q1 q2 H locs la hl hP hS => ?_⟩
  exact va_gets hx hb hX.2.2.2.2.2.2.2.2.1 hS hown (hts _ (okw_of hok)) (fun _ h9 => h9) hd (hs.2 hwf q1 q2 H locs la hl hP hS)
theorem xs_ldcS (Z : xCtx p R s mI args meth c D tc E X base m d h0 hf) (hd : decode (xmb m) pc = .ok (.ldc 72, 2)) (hm : (xmn m).cls = "PaintedTown") (hs : xZ p l e R s mI args below meth c D tc E base m h0 hf Q (pc + 2) ls (.retAddr 0 :: st) h) : xZ p l e R s mI args below meth c D tc E base m h0 hf Q pc ls st h := by
  obtain ⟨hx, hb, hml, hown, hts, hin, hK, hX, hsz, hrc, hrs, hfr, hlo⟩ := Z
  rw [hm] at hown
  refine ⟨hs.1, fun hwf q1 q2 H locs la hl hP hS => ?_⟩
  exact va_ldcS hx hb hown hX.2.2.1 hd (hs.2 hwf q1 q2 H locs la hl hP hS)
theorem xs_ldc {idx v w : Nat} (Z : xCtx p R s mI args meth c D tc E X base m d h0 hf) (hd : decode (xmb m) pc = .ok (.ldc idx, 2)) (hok : okw w (.constant (xmn m).cls idx (Int32.ofNat v)) = true) (hs : xZ p l e R s mI args below meth c D tc E base m h0 hf Q (pc + 2) ls (.int (Int32.ofNat v) :: st) h) : xZ p l e R s mI args below meth c D tc E base m h0 hf Q pc ls st h := by
  obtain ⟨hx, hb, hml, hown, hts, hin, hK, hX, hsz, hrc, hrs, hfr, hlo⟩ := Z
  refine ⟨hs.1, fun hwf q1 q2 H locs la hl hP hS => ?_⟩
  exact lv_ldc hx hb hown (hts _ (okw_of hok)) hd (hs.2 hwf q1 q2 H locs la hl hP hS)
theorem xs_ldc2 {idx v w : Nat} (Z : xCtx p R s mI args meth c D tc E X base m d h0 hf) (hd : decode (xmb m) pc = .ok (.ldc2_w idx, 3)) (hok : okw w (.constantLong (xmn m).cls idx (Int64.ofNat v)) = true) (hs : xZ p l e R s mI args below meth c D tc E base m h0 hf Q (pc + 3) ls (.long (Int64.ofNat v) :: st) h) : xZ p l e R s mI args below meth c D tc E base m h0 hf Q pc ls st h := by
  obtain ⟨hx, hb, hml, hown, hts, hin, hK, hX, hsz, hrc, hrs, hfr, hlo⟩ := Z
  refine ⟨hs.1, fun hwf q1 q2 H locs la hl hP hS => ?_⟩
  exact lv_ldc2 hx hb hown (hts _ (okw_of hok)) hd (hs.2 hwf q1 q2 H locs la hl hP hS)
-- making cells
theorem x_fresh {q : Nat} {z : va_E} {H1 : Heap} (hP1 : va_P D xcls (xw E base tc h ++ [(q, z)]) H1) (hD1 : va_D (xA base) (xw E base tc h ++ [(q, z)])) (hsz : H1.size ≤ base + h.1 + 1) : q = base + h.1 := by
  have e : (xw E base tc h ++ [(q, z)])[h.1]? = some (q, z) := by
    rw [List.getElem?_append_right (by rw [xw_len]; exact Nat.le_refl _), xw_len, Nat.sub_self]
    rfl
  have hlt : q < H1.size := (hP1 _ _ e).lt
  have hge : base ≤ q := hD1.2 _ _ e
  by_cases hq : q < base + h.1
  · have e2 : (xw E base tc h ++ [(q, z)])[q - base]? = some (base + (q - base), xE E base tc ((hg h (q - base)).getD (.inr (99, [])))) := by
      rw [List.getElem?_append_left (by rw [xw_len]; omega)]
      unfold xw
      rw [List.getElem?_map, List.getElem?_range (by omega)]
      rfl
    have := hD1.1 _ _ _ _ e2 e (by show base + (q - base) = q; omega)
    omega
  · omega
theorem xs_new {idx ci w1 w2 w3 : Nat} (Z : xCtx p R s mI args meth c D tc E X base m d h0 hf) (hd : decode (xmb m) pc = .ok (.new idx, 3)) (hok : (match xcls[ci]? with
    | some (C, _, N) => okw w1 (.classLink (xmn m).cls idx C) && okw w2 (.instantiable C N) && okw w3 (.initialized C)
    | none => false) = true) (hs : xZ p l e R s mI args below meth c D tc E base m h0 hf Q (pc + 3) ls (.ref h.1 :: st) (xnew h (xdef.getD ci []).length (.inr (ci, xdef.getD ci [])))) : xZ p l e R s mI args below meth c D tc E base m h0 hf Q pc ls st h := by
  obtain ⟨hx, hb, hml, hown, hts, hin, hK, hX, hsz, hrc, hrs, hfr, hlo⟩ := Z
  cases hc : xcls[ci]? with
  | none => rw [hc] at hok; cases hok
  | some q =>
    obtain ⟨C, T, N⟩ := q
    rw [hc] at hok
    simp only [Bool.and_eq_true] at hok
    obtain ⟨⟨o1, o2⟩, o3⟩ := hok
    obtain ⟨t1, t2, t3, t4, t5⟩ := xtyp_of hc
    have b1 : h.1 + 1 ≤ hf.1 := hs.1.1
    have b2 : h.2.1 + (xdef.getD ci []).length ≤ hf.2.1 := hs.1.2
    refine ⟨⟨by omega, by omega⟩, fun hwf q1 q2 H locs la hl hP hS => ?_⟩
    refine va_new (ci := ci) (fs := xdef.getD ci []) hx hb hts (xcls_hin hc) (xty T) t1 hown (hts _ (okw_of o1)) (hts _ (okw_of o2)) (hts _ (okw_of o3)) hK hP xw_D hS (fun q hq => by show base ≤ q; have hq' : s.heap.size ≤ q := hq; omega) hc t5 (by omega) (by omega) hd fun q H1 hP1 hD1 hS1 => ?_
    refine x_size fun hz => ?_
    have hq : q = base + h.1 := x_fresh hP1 hD1 (by omega)
    subst hq
    have e1 : (base + h.1, (Sum.inr (ci, xdef.getD ci []) : va_E)) = (base + h.1, xE E base tc (.inr (ci, xdef.getD ci []))) := by
      show _ = (base + h.1, (Sum.inr (ci, (xdef.getD ci []).map (xc E base)) : va_E))
      rw [xdef_map]
    rw [e1, xw_new (k := (xdef.getD ci []).length)] at hP1
    have e2 : h.1 - h0.1 + 1 = (xnew h (xdef.getD ci []).length (.inr (ci, xdef.getD ci []))).1 - h0.1 := by
      show h.1 - h0.1 + 1 = h.1 + 1 - h0.1
      omega
    have e3 : h.2.1 - h0.2.1 + N = (xnew h (xdef.getD ci []).length (.inr (ci, xdef.getD ci []))).2.1 - h0.2.1 := by
      show h.2.1 - h0.2.1 + N = h.2.1 + (xdef.getD ci []).length - h0.2.1
      omega
    rw [e2, e3]
    exact hs.2 (xWF_new hwf) (by show h0.1 ≤ h.1 + 1; omega) (by show h0.2.1 ≤ h.2.1 + (xdef.getD ci []).length; omega) H1 locs la hl hP1 hS1
theorem x_newa {aty : ArrayType} {ty : FieldType} {t : Nat} {w : Nat} {n : Int32} {r : List Value} (Z : xCtx p R s mI args meth c D tc E X base m d h0 hf) (hd : decode (xmb m) pc = .ok (.newarray aty, 2)) (hok : okw w (.arrayClass (newarray.typeOf aty)) = true) (hty : newarray.typeOf aty = ty) (htt : (xtys tc)[t]? = some (tc t, ty)) (hra : ∀ cA : ClassId, va_RA s cA ty → cA = tc t)
    (hcell : ∀ (cA : ClassId) (N : Nat), vp_cell cA (N, .inl fun _ => 0) = arrV cA N (fun _ => defaultValue ty)) (hby : componentBytes ty ≤ 8) (hn : ¬ n < 0) (hn2 : n.toNatClampNeg ≤ 1000)
    (hs : xZ p l e R s mI args below meth c D tc E base m h0 hf Q (pc + 2) ls (.ref h.1 :: r) (xnew h n.toNatClampNeg (.inl (t, n.toNatClampNeg, .inl fun _ => 0)))) : xZ p l e R s mI args below meth c D tc E base m h0 hf Q pc ls (.int n :: r) h := by
  obtain ⟨hx, hb, hml, hown, hts, hin, hK, hX, hsz, hrc, hrs, hfr, hlo⟩ := Z
  have b1 : h.1 + 1 ≤ hf.1 := hs.1.1
  have b2 : h.2.1 + n.toNatClampNeg ≤ hf.2.1 := hs.1.2
  refine ⟨⟨by omega, by omega⟩, fun hwf q1 q2 H locs la hl hP hS => ?_⟩
  refine va_newa (atype := aty) (a0 := (n.toNatClampNeg, .inl fun _ => 0)) (N' := n.toNatClampNeg) hx hb (hts _ (okw_of hok)) hty hK hP xw_D hS (fun q hq => by show base ≤ q; have hq' : s.heap.size ≤ q := hq; omega) (fun cA => hcell cA _) hn rfl (Nat.le_trans (Nat.mul_le_mul hn2 hby) (Nat.le_of_ble_eq_true rfl)) (by omega) (by omega) hd fun q cA H1 hK1 hP1 hD1 hS1 => ?_
  refine x_size fun hz => ?_
  have hq : q = base + h.1 := x_fresh hP1 hD1 (by omega)
  subst hq
  have hcA : cA = tc t := hra cA (hK1.2 4 (cA, ty) rfl).2
  subst hcA
  have e1 : (base + h.1, (Sum.inl (tc t, n.toNatClampNeg, .inl fun _ => 0) : va_E)) = (base + h.1, xE E base tc (.inl (t, n.toNatClampNeg, .inl fun _ => 0))) := rfl
  rw [e1, xw_new (k := n.toNatClampNeg)] at hP1
  have e2 : h.1 - h0.1 + 1 = (xnew h n.toNatClampNeg (.inl (t, n.toNatClampNeg, .inl fun _ => 0))).1 - h0.1 := by
    show h.1 - h0.1 + 1 = h.1 + 1 - h0.1
    omega
  have e3 : h.2.1 - h0.2.1 + n.toNatClampNeg = (xnew h n.toNatClampNeg (.inl (t, n.toNatClampNeg, .inl fun _ => 0))).2.1 - h0.2.1 := by
    show h.2.1 - h0.2.1 + n.toNatClampNeg = h.2.1 + n.toNatClampNeg - h0.2.1
    omega
  rw [e2, e3]
  exact hs.2 (xWF_new hwf) (by show h0.1 ≤ h.1 + 1; omega) (by show h0.2.1 ≤ h.2.1 + n.toNatClampNeg; omega) H1 locs la hl hP1 hS1
theorem xs_newarray {aty : ArrayType} {t w : Nat} (Z : xCtx p R s mI args meth c D tc E X base m d h0 hf) (hd : decode (xmb m) pc = .ok (.newarray aty, 2)) (hty : (t = 0 ∧ aty = .int) ∨ (t = 1 ∧ aty = .char) ∨ (t = 2 ∧ aty = .boolean)) (hok : okw w (.arrayClass (newarray.typeOf aty)) = true)
    (hs : xi1 st fun n r => ¬ n < 0 ∧ n.toNatClampNeg ≤ 1000 ∧ xZ p l e R s mI args below meth c D tc E base m h0 hf Q (pc + 2) ls (.ref h.1 :: r) (xnew h n.toNatClampNeg (.inl (t, n.toNatClampNeg, .inl fun _ => 0)))) : xZ p l e R s mI args below meth c D tc E base m h0 hf Q pc ls st h := by
  obtain ⟨n, r, rfl, k1, k2, hs⟩ := xi1_ex hs
  have hK := Z.2.2.2.2.2.2.1
  have g : ∀ (t : Nat) (ty : FieldType), (xtys tc)[t]? = some (tc t, ty) → (∀ C, ty ≠ .object C) → ∀ cA : ClassId, va_RA s cA ty → cA = tc t := by
    intro t ty h1 h2 cA h3
    have h4 := (hK.2 t _ h1).2
    cases ty with
    | object C => exact absurd rfl (h2 C)
    | _ => exact Option.some.inj (Eq.trans (Eq.symm h3) h4)
  rcases hty with ⟨rfl, rfl⟩ | ⟨rfl, rfl⟩ | ⟨rfl, rfl⟩
  · exact x_newa (ty := .int) Z hd hok rfl rfl (g 0 .int rfl (fun C z => by cases z)) (fun cA N => rfl) (by decide) k1 k2 hs
  · exact x_newa (ty := .char) Z hd hok rfl rfl (g 1 .char rfl (fun C z => by cases z)) (fun cA N => rfl) (by decide) k1 k2 hs
  · exact x_newa (ty := .boolean) Z hd hok rfl rfl (g 2 .boolean rfl (fun C z => by cases z)) (fun cA N => rfl) (by decide) k1 k2 hs
theorem xs_anewarray {idx w : Nat} (Z : xCtx p R s mI args meth c D tc E X base m d h0 hf) (hd : decode (xmb m) pc = .ok (.anewarray idx, 3)) (hok : okw w (.classLink (xmn m).cls idx "PaintedTown$Town") = true)
    (hs : xi1 st fun n r => ¬ n < 0 ∧ n.toNatClampNeg ≤ 1000 ∧ xZ p l e R s mI args below meth c D tc E base m h0 hf Q (pc + 3) ls (.ref h.1 :: r) (xnew h n.toNatClampNeg (.inl (3, n.toNatClampNeg, .inr fun _ => none)))) : xZ p l e R s mI args below meth c D tc E base m h0 hf Q pc ls st h := by
  obtain ⟨hx, hb, hml, hown, hts, hin, hK, hX, hsz, hrc, hrs, hfr, hlo⟩ := Z
  obtain ⟨n, r, rfl, k1, k2, hs⟩ := xi1_ex hs
  have b1 : h.1 + 1 ≤ hf.1 := hs.1.1
  have b2 : h.2.1 + n.toNatClampNeg ≤ hf.2.1 := hs.1.2
  refine ⟨⟨by omega, by omega⟩, fun hwf q1 q2 H locs la hl hP hS => ?_⟩
  refine va_newq (N' := n.toNatClampNeg) hx hb hown (hts _ (okw_of hok)) hX.2.2.2.2.2.2.2.2.2.2.1 hK hP xw_D hS (fun q hq => by show base ≤ q; have hq' : s.heap.size ≤ q := hq; omega) k1 rfl (Nat.le_trans (Nat.mul_le_mul_right 4 k2) (Nat.le_of_ble_eq_true rfl)) (by omega) (by omega) hd fun q cA H1 hK1 hP1 hD1 hS1 => ?_
  refine x_size fun hz => ?_
  have hq : q = base + h.1 := x_fresh hP1 hD1 (by omega)
  subst hq
  have hcA : cA = tc 3 := by
    obtain ⟨_, _, -, -, -, h3⟩ := (hK1.2 4 (cA, .object "PaintedTown$Town") rfl).2
    obtain ⟨_, _, -, -, -, h4⟩ := (hK.2 3 (tc 3, .object "PaintedTown$Town") rfl).2
    exact Option.some.inj (h3.symm.trans h4)
  subst hcA
  have e1 : (base + h.1, (Sum.inl (tc 3, n.toNatClampNeg, .inr (.inr (.inr (.inr fun _ => none)))) : va_E)) = (base + h.1, xE E base tc (.inl (3, n.toNatClampNeg, .inr fun _ => none))) := rfl
  rw [e1, xw_new (k := n.toNatClampNeg)] at hP1
  have e2 : h.1 - h0.1 + 1 = (xnew h n.toNatClampNeg (.inl (3, n.toNatClampNeg, .inr fun _ => none))).1 - h0.1 := by
    show h.1 - h0.1 + 1 = h.1 + 1 - h0.1
    omega
  have e3 : h.2.1 - h0.2.1 + n.toNatClampNeg = (xnew h n.toNatClampNeg (.inl (3, n.toNatClampNeg, .inr fun _ => none))).2.1 - h0.2.1 := by
    show h.2.1 - h0.2.1 + n.toNatClampNeg = h.2.1 + n.toNatClampNeg - h0.2.1
    omega
  rw [e2, e3]
  exact hs.2 (xWF_new hwf) (by show h0.1 ≤ h.1 + 1; omega) (by show h0.2.1 ≤ h.2.1 + n.toNatClampNeg; omega) H1 locs la hl hP1 hS1
-- arrays
theorem xs_arrload {op : Instr} {t a : Nat} {i : Int32} {r : List Value} (Z : xCtx p R s mI args meth c D tc E X base m d h0 hf) (hd : decode (xmb m) pc = .ok (op, 1)) (hop : (t = 0 ∧ op = .iaload) ∨ (t = 1 ∧ op = .caload) ∨ (t = 2 ∧ op = .baload)) (hs : xar (hg h a) t fun n g => vp_in i n ∧ xZ p l e R s mI args below meth c D tc E base m h0 hf Q (pc + 1) ls (.int (g i.toNatClampNeg) :: r) h) : xZ p l e R s mI args below meth c D tc E base m h0 hf Q pc ls (.int i :: .ref a :: r) h := by
  obtain ⟨hx, hb, hml, hown, hts, hin, hK, hX, hsz, hrc, hrs, hfr, hlo⟩ := Z
  obtain ⟨n, g, e, k1, hq⟩ := xar_ex hs
  clear hs
  refine ⟨hq.1, fun hwf q1 q2 H locs la hl hP hS => ?_⟩
  have he := xw_at (E := E) (base := base) (tc := tc) e (hwf.2 _ _ e)
  rcases hop with ⟨rfl, rfl⟩ | ⟨rfl, rfl⟩ | ⟨rfl, rfl⟩
  · exact va_iald hx hb hK hP a 0 he rfl k1 hd (hq.2 hwf q1 q2 H locs la hl hP hS)
  · exact va_cald hx hb hK hP a 1 he rfl k1 hd (hq.2 hwf q1 q2 H locs la hl hP hS)
  · exact va_zald hx hb hK hP a 2 he rfl k1 hd (hq.2 hwf q1 q2 H locs la hl hP hS)
theorem xs_iald2 {i : Int32} {r : List Value} (Z : xCtx p R s mI args meth c D tc E X base m d h0 hf) (hd : decode (xmb m) pc = .ok (.iaload, 1)) (hs : vp_in i 8 ∧ xZ p l e R s mI args below meth c D tc E base m h0 hf Q (pc + 1) ls (.int (xsz i.toNatClampNeg) :: r) h) : xZ p l e R s mI args below meth c D tc E base m h0 hf Q pc ls (.int i :: .retAddr 2 :: r) h := by
  obtain ⟨hx, hb, hml, hown, hts, hin, hK, hX, hsz, hrc, hrs, hfr, hlo⟩ := Z
  obtain ⟨k1, hs⟩ := hs
  refine ⟨hs.1, fun hwf q1 q2 H locs la hl hP hS => ?_⟩
  exact va_ti hx hb hX.2.1 hS k1 rfl hd (hs.2 hwf q1 q2 H locs la hl hP hS)
theorem xs_iald4 {i : Int32} {r : List Value} (Z : xCtx p R s mI args meth c D tc E X base m d h0 hf) (hd : decode (xmb m) pc = .ok (.iaload, 1)) (hs : vp_in i X.1 ∧ xZ p l e R s mI args below meth c D tc E base m h0 hf Q (pc + 1) ls (.int (X.2 i.toNatClampNeg) :: r) h) : xZ p l e R s mI args below meth c D tc E base m h0 hf Q pc ls (.int i :: .retAddr 4 :: r) h := by
  obtain ⟨hx, hb, hml, hown, hts, hin, hK, hX, hsz, hrc, hrs, hfr, hlo⟩ := Z
  obtain ⟨k1, hs⟩ := hs
  refine ⟨hs.1, fun hwf q1 q2 H locs la hl hP hS => ?_⟩
  obtain ⟨scr, q, -⟩ := hX.2.2.2.2.2.2.2.2.2.2.2.1
  exact va_sld hx hb hX.2.2.2.2.2.2.2.2.2.2.2.1 (Array.getElem?_eq_some_iff.mp q).1 (Nat.not_le.mpr hX.2.2.2.2.2.2.2.2.2.2.2.2) hS k1 hd (hs.2 hwf q1 q2 H locs la hl hP hS)
theorem xs_bald1 {i : Int32} {r : List Value} (Z : xCtx p R s mI args meth c D tc E X base m d h0 hf) (hd : decode (xmb m) pc = .ok (.baload, 1)) (hs : vp_in i 91 ∧ xZ p l e R s mI args below meth c D tc E base m h0 hf Q (pc + 1) ls (.int (xby i.toNatClampNeg) :: r) h) : xZ p l e R s mI args below meth c D tc E base m h0 hf Q pc ls (.int i :: .retAddr 1 :: r) h := by
  obtain ⟨hx, hb, hml, hown, hts, hin, hK, hX, hsz, hrc, hrs, hfr, hlo⟩ := Z
  obtain ⟨k1, hs⟩ := hs
  refine ⟨hs.1, fun hwf q1 q2 H locs la hl hP hS => ?_⟩
  exact va_tb hx hb hX.2.2.2.2.2.2.1 hS k1 rfl hd (hs.2 hwf q1 q2 H locs la hl hP hS)
theorem xs_alen1 {r : List Value} (Z : xCtx p R s mI args meth c D tc E X base m d h0 hf) (hd : decode (xmb m) pc = .ok (.arraylength, 1)) (hs : xZ p l e R s mI args below meth c D tc E base m h0 hf Q (pc + 1) ls (.int 91 :: r) h) : xZ p l e R s mI args below meth c D tc E base m h0 hf Q pc ls (.retAddr 1 :: r) h := by
  obtain ⟨hx, hb, hml, hown, hts, hin, hK, hX, hsz, hrc, hrs, hfr, hlo⟩ := Z
  refine ⟨hs.1, fun hwf q1 q2 H locs la hl hP hS => ?_⟩
  exact va_tlen hx hb hX.2.2.2.2.2.2.1 hS rfl hd (hs.2 hwf q1 q2 H locs la hl hP hS)
theorem xs_alen2 {r : List Value} (Z : xCtx p R s mI args meth c D tc E X base m d h0 hf) (hd : decode (xmb m) pc = .ok (.arraylength, 1)) (hs : xZ p l e R s mI args below meth c D tc E base m h0 hf Q (pc + 1) ls (.int 8 :: r) h) : xZ p l e R s mI args below meth c D tc E base m h0 hf Q pc ls (.retAddr 2 :: r) h := by
  obtain ⟨hx, hb, hml, hown, hts, hin, hK, hX, hsz, hrc, hrs, hfr, hlo⟩ := Z
  refine ⟨hs.1, fun hwf q1 q2 H locs la hl hP hS => ?_⟩
  exact va_tlen hx hb hX.2.1 hS rfl hd (hs.2 hwf q1 q2 H locs la hl hP hS)
theorem xs_alen4 {r : List Value} (Z : xCtx p R s mI args meth c D tc E X base m d h0 hf) (hd : decode (xmb m) pc = .ok (.arraylength, 1)) (hs : xZ p l e R s mI args below meth c D tc E base m h0 hf Q (pc + 1) ls (.int (Int32.ofNat X.1) :: r) h) : xZ p l e R s mI args below meth c D tc E base m h0 hf Q pc ls (.retAddr 4 :: r) h := by
  obtain ⟨hx, hb, hml, hown, hts, hin, hK, hX, hsz, hrc, hrs, hfr, hlo⟩ := Z
  refine ⟨hs.1, fun hwf q1 q2 H locs la hl hP hS => ?_⟩
  obtain ⟨scr, q, -⟩ := hX.2.2.2.2.2.2.2.2.2.2.2.1
  exact va_slen hx hb hX.2.2.2.2.2.2.2.2.2.2.2.1 (Array.getElem?_eq_some_iff.mp q).1 (Nat.not_le.mpr hX.2.2.2.2.2.2.2.2.2.2.2.2) hS hd (hs.2 hwf q1 q2 H locs la hl hP hS)
theorem xs_aald {a : Nat} {i : Int32} {r : List Value} (Z : xCtx p R s mI args meth c D tc E X base m d h0 hf) (hd : decode (xmb m) pc = .ok (.aaload, 1)) (hs : xaq (hg h a) fun n g => vp_in i n ∧ xZ p l e R s mI args below meth c D tc E base m h0 hf Q (pc + 1) ls (va_rf (g i.toNatClampNeg) :: r) h) : xZ p l e R s mI args below meth c D tc E base m h0 hf Q pc ls (.int i :: .ref a :: r) h := by
  obtain ⟨hx, hb, hml, hown, hts, hin, hK, hX, hsz, hrc, hrs, hfr, hlo⟩ := Z
  obtain ⟨n, g, e, k1, hs⟩ := xaq_ex hs
  refine ⟨hs.1, fun hwf q1 q2 H locs la hl hP hS => ?_⟩
  have he := xw_at (E := E) (base := base) (tc := tc) e (hwf.2 _ _ e)
  have kk := hs.2 hwf q1 q2 H locs la hl hP hS
  rw [List.map_cons, xrf_c] at kk
  exact va_aldq (C := "PaintedTown$Town") (f := fun j => (g j).map (fun x => base + x)) hx hb hK hP a 3 he rfl k1 hd kk
theorem xs_arrstore {op : Instr} {t a : Nat} {x i : Int32} {r : List Value} {ty : FieldType} (Z : xCtx p R s mI args meth c D tc E X base m d h0 hf) (hd : decode (xmb m) pc = .ok (op, 1)) (hop : (t = 0 ∧ op = .iastore ∧ ty = .int) ∨ (t = 1 ∧ op = .castore ∧ ty = .char) ∨ (t = 2 ∧ op = .bastore ∧ ty = .boolean)) (hs : xar (hg h a) t fun n g => vp_in i n ∧ xZ p l e R s mI args below meth c D tc E base m h0 hf Q (pc + 1) ls r (xset h a (.inl (t, n, .inl (upd g i.toNatClampNeg (vp_nar ty x)))))) : xZ p l e R s mI args below meth c D tc E base m h0 hf Q pc ls (.int x :: .int i :: .ref a :: r) h := by
  obtain ⟨hx, hb, hml, hown, hts, hin, hK, hX, hsz, hrc, hrs, hfr, hlo⟩ := Z
  obtain ⟨n, g, e, k1, hs⟩ := xar_ex hs
  refine ⟨hs.1, fun hwf q1 q2 H locs la hl hP hS => ?_⟩
  have ha := hwf.2 _ _ e
  have he := xw_at (E := E) (base := base) (tc := tc) e ha
  have kk : ∀ (H1 : Heap) (locs1 : List Loc), va_P D xcls ((xw E base tc h).set a (base + a, xE E base tc (.inl (t, n, .inl (upd g i.toNatClampNeg (vp_nar ty x)))))) H1 → va_D (xA base) ((xw E base tc h).set a (base + a, xE E base tc (.inl (t, n, .inl (upd g i.toNatClampNeg (vp_nar ty x)))))) → va_S (xA base) s.heap H1 locs1 → W p l ‹Env› R s mI args below meth c H1 locs1 (h.1 - h0.1) (h.2.1 - h0.2.1) Q (F0 mI (pc + 1) la (r.map (xc E base))) := by
    intro H1 locs1 hP1 _ hS1
    rw [xw_set ha] at hP1
    exact hs.2 (xWF_set hwf e) q1 q2 H1 locs1 la hl hP1 hS1
  rcases hop with ⟨rfl, rfl, rfl⟩ | ⟨rfl, rfl, rfl⟩ | ⟨rfl, rfl, rfl⟩
  · exact va_iast hx hb hK hP xw_D hS a 0 he rfl k1 hd kk
  · exact va_cast hx hb hK hP xw_D hS a 1 he rfl k1 hd kk
  · exact va_zast hx hb hK hP xw_D hS a 2 he rfl k1 hd kk
theorem xs_aast {a x : Nat} {i : Int32} {r : List Value} (Z : xCtx p R s mI args meth c D tc E X base m d h0 hf) (hd : decode (xmb m) pc = .ok (.aastore, 1)) (hs : xaq (hg h a) fun n g => vp_in i n ∧ xob (hg h x) 3 fun _ => xZ p l e R s mI args below meth c D tc E base m h0 hf Q (pc + 1) ls r (xset h a (.inl (3, n, .inr (va_up g i.toNatClampNeg (some x)))))) : xZ p l e R s mI args below meth c D tc E base m h0 hf Q pc ls (.ref x :: .int i :: .ref a :: r) h := by
  obtain ⟨hx, hb, hml, hown, hts, hin, hK, hX, hsz, hrc, hrs, hfr, hlo⟩ := Z
  obtain ⟨n, g, e, k1, hs⟩ := xaq_ex hs
  obtain ⟨fs, e2, hs⟩ := xob_ex hs
  refine ⟨hs.1, fun hwf q1 q2 H locs la hl hP hS => ?_⟩
  have ha := hwf.2 _ _ e
  have he := xw_at (E := E) (base := base) (tc := tc) e ha
  have he2 := xw_at (E := E) (base := base) (tc := tc) e2 (hwf.2 _ _ e2)
  have ef : (fun j => (va_up g i.toNatClampNeg (some x) j).map (fun x => base + x)) = va_up (fun j => (g j).map (fun x => base + x)) i.toNatClampNeg (some (base + x)) := by
    funext j
    unfold va_up
    by_cases hj : j = i.toNatClampNeg
    · rw [if_pos hj, if_pos hj]; rfl
    · rw [if_neg hj, if_neg hj]
  refine va_astq (f := fun j => (g j).map (fun x => base + x)) (r := ("PaintedTown$Town", xT3, 6)) hx hb hK hP xw_D hS a 3 x 3 he rfl he2 rfl k1 hd fun H1 locs1 hP1 _ hS1 => ?_
  rw [← ef] at hP1
  have hP1 : va_P D xcls ((xw E base tc h).set a (base + a, xE E base tc (.inl (3, n, .inr (va_up g i.toNatClampNeg (some x)))))) H1 := hP1
  rw [xw_set ha] at hP1
  exact hs.2 (xWF_set hwf e) q1 q2 H1 locs1 la hl hP1 hS1
end XS2
