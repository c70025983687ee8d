/-! Cells as a list, and small things made. -/
/-- cells behind those of h0, as a list -/
def hX (h0 : xHp) (L : List xC) (k : Nat) : xHp := (h0.1 + L.length, k, fun a => if a < h0.1 then h0.2.2 a else L[a - h0.1]?)
theorem hX_new {h0 : xHp} {L : List xC} {k n : Nat} {c : xC} : xnew (hX h0 L k) n c = hX h0 (L ++ [c]) (k + n) := by
  unfold xnew hX
  refine Prod.ext (by show h0.1 + L.length + 1 = h0.1 + (L ++ [c]).length; rw [List.length_append]; rfl) (Prod.ext rfl (funext fun j => ?_))
  show (if j = h0.1 + L.length then some c else if j < h0.1 then h0.2.2 j else L[j - h0.1]?) = if j < h0.1 then h0.2.2 j else (L ++ [c])[j - h0.1]?
  by_cases e : j = h0.1 + L.length
  · subst e
    rw [if_pos rfl, if_neg (by omega), List.getElem?_append_right (by omega), show h0.1 + L.length - h0.1 - L.length = 0 by omega]
    rfl
  · rw [if_neg e]
    by_cases q : j < h0.1
    · rw [if_pos q, if_pos q]
    · rw [if_neg q, if_neg q]
      by_cases q2 : j - h0.1 < L.length
      · rw [List.getElem?_append_left q2]
      · rw [List.getElem?_eq_none (by omega), List.getElem?_eq_none (by rw [List.length_append]; show L.length + 1 ≤ _; omega)]
theorem hX_set {h0 : xHp} {L : List xC} {k i : Nat} {c : xC} (hi : i < L.length) : xset (hX h0 L k) (h0.1 + i) c = hX h0 (L.set i c) k := by
  unfold xset hX
  refine Prod.ext (by show h0.1 + L.length = h0.1 + (L.set i c).length; rw [List.length_set]) (Prod.ext rfl (funext fun j => ?_))
  show (if j = h0.1 + i then some c else if j < h0.1 then h0.2.2 j else L[j - h0.1]?) = if j < h0.1 then h0.2.2 j else (L.set i c)[j - h0.1]?
  by_cases e : j = h0.1 + i
  · subst e
    rw [if_pos rfl, if_neg (by omega), show h0.1 + i - h0.1 = i by omega, List.getElem?_set, if_pos rfl, if_pos hi]
  · rw [if_neg e]
    by_cases q : j < h0.1
    · rw [if_pos q, if_pos q]
    · rw [if_neg q, if_neg q, List.getElem?_set, if_neg (by omega)]
theorem hX_at {h0 : xHp} {L : List xC} {k i : Nat} : hg (hX h0 L k) (h0.1 + i) = L[i]? := by
  unfold hg hX
  show (if h0.1 + i < h0.1 then h0.2.2 (h0.1 + i) else L[h0.1 + i - h0.1]?) = L[i]?
  rw [if_neg (by omega), show h0.1 + i - h0.1 = i by omega]
section
variable {X : Nat × (Nat → Int32)} {C : Nat → List Value → xHp → Option Value → xHp → Prop} {m : Nat} {Q : Option Value → xHp → Prop} {pc : Nat} {ls st r : List Value} {nf : List Nat} {h0 : xHp} {L : List xC} {k N : Nat}
theorem l_new {i ci w0 w1 w2 a : Nat} {fs : List Value} (hc : xCD m pc = some (.new i, [ci, w0, w1, w2])) (hd : xdef.getD ci [] = fs) (ha : a = h0.1 + L.length) (kk : RUN X C m Q (pc + 3) ls (.ref a :: st) (hX h0 (L ++ [.inr (ci, fs)]) (k + fs.length))) : RUN X C m Q pc ls st (hX h0 L k) := by
  subst ha
  refine s_newo hc hd ?_
  rw [hX_new]
  exact kk
theorem l_newa {t n w a : Nat} {ty : _} (hc : xCD m pc = some (.newarray ty, [t, w])) (hn : n ≤ 1000) (ha : a = h0.1 + L.length) (kk : RUN X C m Q (pc + 2) ls (.ref a :: r) (hX h0 (L ++ [.inl (t, n, .inl fun _ => 0)]) (k + n))) : RUN X C m Q pc ls (.int (nI n) :: r) (hX h0 L k) := by
  subst ha
  refine s_newa hc hn ?_
  rw [hX_new]
  exact kk
theorem l_newr {i n w0 w1 a : Nat} (hc : xCD m pc = some (.anewarray i, [w0, w1])) (hn : n ≤ 1000) (ha : a = h0.1 + L.length) (kk : RUN X C m Q (pc + 3) ls (.ref a :: r) (hX h0 (L ++ [.inl (3, n, .inr fun _ => none)]) (k + n))) : RUN X C m Q pc ls (.int (nI n) :: r) (hX h0 L k) := by
  subst ha
  refine s_newr hc hn ?_
  rw [hX_new]
  exact kk
theorem l_put {ci f i w a p : Nat} {v : Value} {fs : List Value} (hc : xCD m pc = some (.putfield i, [ci, f, w])) (ha : a = h0.1 + p) (hg1 : L[p]? = some (.inr (ci, fs))) (hk : f < fs.length) (hf : xfit ci f v) (kk : RUN X C m Q (pc + 3) ls r (hX h0 (L.set p (.inr (ci, fs.set f v))) k)) : RUN X C m Q pc ls (v :: .ref a :: r) (hX h0 L k) := by
  subst ha
  refine s_puth hc (hX_at.trans hg1) hk hf ?_
  rw [hX_set (List.getElem?_eq_some_iff.mp hg1).1]
  exact kk
theorem l_get {ci f i w a p : Nat} {v : Value} {fs : List Value} (hc : xCD m pc = some (.getfield i, [ci, f, w])) (ha : a = h0.1 + p) (hg1 : L[p]? = some (.inr (ci, fs))) (hv : fs[f]? = some v) (kk : RUN X C m Q (pc + 3) ls (v :: r) (hX h0 L k)) : RUN X C m Q pc ls (.ref a :: r) (hX h0 L k) := by
  subst ha
  exact s_geth hc (hX_at.trans hg1) hv kk
end
def iA (n : Nat) : xC := .inl (0, n, .inl fun _ => 0)
def bA (n : Nat) : xC := .inl (2, n, .inl fun _ => 0)
section
variable {X : Nat × (Nat → Int32)} {d a p N k : Nat} {h0 : xHp} {L : List xC}
theorem gA {L1 : List xC} {c : xC} (h : L[p]? = some c) : (L ++ L1)[p]? = some c := by
  rw [List.getElem?_append_left (List.getElem?_eq_some_iff.mp h).1]; exact h
theorem gS {c c' : xC} (h : L[p]? = some c') : (L.set p c)[p]? = some c := by
  rw [List.getElem?_set, if_pos rfl, if_pos (List.getElem?_eq_some_iff.mp h).1]
theorem sA {L1 : List xC} {c c' : xC} (h : L[p]? = some c') : (L ++ L1).set p c = L.set p c ++ L1 := List.set_append_left _ _ (List.getElem?_eq_some_iff.mp h).1
/-- a painting made -/
theorem m3 (hN : N = h0.1 + L.length) (ha : a = h0.1 + p) (h : L[p]? = some (.inr (2, [.int 0, .int 0, .int 0, .null, .null]))) : EV X (d + 1) 3 [.ref a] (hX h0 L k) none (hX h0 (L.set p (.inr (2, [.int 0, .int 0, .int 0, .ref N, .ref (N + 1)])) ++ [iA 36] ++ [iA 4]) (k + 36 + 4)) := by
  refine EV_intro (Nat.le_of_ble_eq_true rfl) (s_aload_n c3_0 rfl <| s_obj c3_1 (by decide) <| s_aload_n c3_4 rfl <| s_bipush c3_5 zcB_36 <| l_newa c3_7 (by decide) hN <| l_put c3_9 ha (gA h) (Nat.le_of_ble_eq_true rfl) xr_2_3 <| ?_)
  rw [sA h]
  refine s_aload_n c3_12 rfl <| s_const c3_13 zcI_4 <| l_newa (a := N + 1) c3_14 (by decide) (by rw [List.length_append, List.length_set, hN]; rfl) <| l_put c3_16 ha (gA (gA (gS h))) (Nat.le_of_ble_eq_true rfl) xr_2_4 <| ?_
  rw [sA (gA (gS h)), sA (gS h), List.set_set]
  exact s_ret c3_19 rfl ⟨rfl, rfl⟩
end
