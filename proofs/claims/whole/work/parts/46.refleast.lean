/-! The reference: all sets gone through. -/
theorem getD_1 {a i : Nat} {f : Nat → Int32} (h0 : f 0 = nI a) : ∀ i, i < [a].length → f i = nI ([a].getD i 0) := fun i hi => by
  have hi : i < 1 := hi
  obtain rfl : i = 0 := by omega
  exact h0
theorem getD_2 {a b i : Nat} {f : Nat → Int32} (h0 : f 0 = nI a) (h1 : f 1 = nI b) : ∀ i, i < [a, b].length → f i = nI ([a, b].getD i 0) := fun i hi => by
  have hi : i < 2 := hi
  rcases (show i = 0 ∨ i = 1 by omega) with rfl | rfl
  · exact h0
  · exact h1
theorem getD_3 {a b c i : Nat} {f : Nat → Int32} (h0 : f 0 = nI a) (h1 : f 1 = nI b) (h2 : f 2 = nI c) : ∀ i, i < [a, b, c].length → f i = nI ([a, b, c].getD i 0) := fun i hi => by
  have hi : i < 3 := hi
  rcases (show i = 0 ∨ i = 1 ∨ i = 2 by omega) with rfl | rfl | rfl
  · exact h0
  · exact h1
  · exact h2
section
variable {N : Nat} {el : Nat → Prop} {w : Nat → Nat} {ps : List Nat → Prop} {r : Option (List Nat)}
/-- more sets behind, of which none is new -/
theorem BE.up {P P' : List Nat → Prop} (h : BE N el w ps P r) (h1 : ∀ v, P v → P' v) (h2 : ∀ v, zokl N el v → P' v → P v) : BE N el w ps P' r := h.grow (fun v _ q => h1 v q) (fun v hv q => Or.inl (h2 v hv q))
set_option maxRecDepth 100000 in
theorem bu0 (h : BE N el w ps (fun v => BB 0 0 v ∨ v = []) r) : BE N el w ps (BB 1 4096) r := by
  refine h.up (fun v q => ?_) (fun v hv q => ?_)
  · unfold BB at *
    rcases q with q | rfl
    · omega
    · exact Or.inl (Nat.lt_succ_self 0)
  · unfold BB at *
    rcases v with _ | ⟨a, _ | ⟨b, _ | ⟨c, _ | ⟨e, _⟩⟩⟩⟩
    · exact Or.inr rfl
    · exfalso
      rcases q with q | ⟨-, q⟩
      · exact absurd q (Nat.lt_irrefl 1)
      · have q : (a + 1) * 4096 < 4096 := q
        omega
    all_goals (exfalso; (simp at q) <;> omega)
set_option maxRecDepth 100000 in
theorem bu1 {i : Nat} (h : BE N el w ps (fun v => BB 1 ((i + 1) * 4096) v ∨ v = [i]) r) : BE N el w ps (BB 1 ((i + 2) * 4096)) r := by
  refine h.up (fun v q => ?_) (fun v hv q => ?_)
  · unfold BB at *
    rcases q with q | rfl
    · omega
    · refine Or.inr ⟨rfl, ?_⟩
      show (i + 1) * 4096 < (i + 2) * 4096
      omega
  · unfold BB at *
    rcases q with q | ⟨q1, q2⟩
    · exact Or.inl (Or.inl q)
    · rcases v with _ | ⟨a, _ | ⟨b, _⟩⟩
      · simp at q1
      · have q2 : (a + 1) * 4096 < (i + 2) * 4096 := q2
        by_cases e : a = i
        · subst e; exact Or.inr rfl
        · refine Or.inl (Or.inr ⟨rfl, ?_⟩)
          show (a + 1) * 4096 < (i + 1) * 4096
          omega
      · simp at q1
set_option maxRecDepth 100000 in
theorem bu2 (hN : N ≤ 36) (h : BE N el w ps (BB 1 ((N + 1) * 4096)) r) : BE N el w ps (BB 2 4096) r := by
  refine h.up (fun v q => ?_) (fun v hv q => ?_)
  · unfold BB at *
    omega
  · unfold BB at *
    rcases v with _ | ⟨a, _ | ⟨b, _ | ⟨c, _ | ⟨e, _⟩⟩⟩⟩
    · exact Or.inl (Nat.lt_succ_self 0)
    · refine Or.inr ⟨rfl, ?_⟩
      have hv := hv.1
      show (a + 1) * 4096 < (N + 1) * 4096
      omega
    · exfalso
      rcases q with q | ⟨-, q⟩
      · exact absurd q (Nat.lt_irrefl 2)
      · have q : (a + 1) * 4096 + (b + 1) * 64 < 4096 := q
        omega
    all_goals (exfalso; (simp at q) <;> omega)
set_option maxRecDepth 100000 in
theorem bu3 {a : Nat} (hN : N ≤ 36) (h : BE N el w ps (BB 2 ((a + 1) * 4096)) r) : BE N el w ps (BB 2 ((a + 1) * 4096 + (a + 2) * 64)) r := by
  refine h.up (fun v q => ?_) (fun v hv q => ?_)
  · unfold BB at *
    omega
  · unfold BB at *
    rcases q with q | ⟨q1, q2⟩
    · exact Or.inl q
    · rcases v with _ | ⟨a', _ | ⟨b', _ | ⟨c', _⟩⟩⟩
      · simp at q1
      · simp at q1
      · refine Or.inr ⟨rfl, ?_⟩
        have hv := hv.1
        have q2 : (a' + 1) * 4096 + (b' + 1) * 64 < (a + 1) * 4096 + (a + 2) * 64 := q2
        show (a' + 1) * 4096 + (b' + 1) * 64 < (a + 1) * 4096
        by_cases e : a' < a
        · omega
        · exfalso
          by_cases e2 : a' = a
          · subst e2; omega
          · omega
      · simp at q1
set_option maxRecDepth 100000 in
theorem bu4 {a b : Nat} (hN : N ≤ 36) (hb : b < N) (h : BE N el w ps (fun v => BB 2 ((a + 1) * 4096 + (b + 1) * 64) v ∨ v = [a, b]) r) : BE N el w ps (BB 2 ((a + 1) * 4096 + (b + 2) * 64)) r := by
  refine h.up (fun v q => ?_) (fun v hv q => ?_)
  · unfold BB at *
    rcases q with q | rfl
    · omega
    · refine Or.inr ⟨rfl, ?_⟩
      show (a + 1) * 4096 + (b + 1) * 64 < (a + 1) * 4096 + (b + 2) * 64
      omega
  · unfold BB at *
    rcases q with q | ⟨q1, q2⟩
    · exact Or.inl (Or.inl q)
    · rcases v with _ | ⟨a', _ | ⟨b', _ | ⟨c', _⟩⟩⟩
      · simp at q1
      · simp at q1
      · have hv := hv.1
        have q2 : (a' + 1) * 4096 + (b' + 1) * 64 < (a + 1) * 4096 + (b + 2) * 64 := q2
        by_cases e : a' = a
        · subst e
          by_cases e2 : b' = b
          · subst e2; exact Or.inr rfl
          · refine Or.inl (Or.inr ⟨rfl, ?_⟩)
            show (a' + 1) * 4096 + (b' + 1) * 64 < (a' + 1) * 4096 + (b + 1) * 64
            omega
        · refine Or.inl (Or.inr ⟨rfl, ?_⟩)
          show (a' + 1) * 4096 + (b' + 1) * 64 < (a + 1) * 4096 + (b + 1) * 64
          omega
      · simp at q1
set_option maxRecDepth 100000 in
theorem bu5 {a : Nat} (hN : N ≤ 36) (h : BE N el w ps (BB 2 ((a + 1) * 4096 + (N + 1) * 64)) r) : BE N el w ps (BB 2 ((a + 2) * 4096)) r := by
  refine h.up (fun v q => ?_) (fun v hv q => ?_)
  · unfold BB at *
    omega
  · unfold BB at *
    rcases q with q | ⟨q1, q2⟩
    · exact Or.inl q
    · rcases v with _ | ⟨a', _ | ⟨b', _ | ⟨c', _⟩⟩⟩
      · simp at q1
      · simp at q1
      · have hv := hv.1
        have q2 : (a' + 1) * 4096 + (b' + 1) * 64 < (a + 2) * 4096 := q2
        refine Or.inr ⟨rfl, ?_⟩
        show (a' + 1) * 4096 + (b' + 1) * 64 < (a + 1) * 4096 + (N + 1) * 64
        omega
      · simp at q1
set_option maxRecDepth 100000 in
theorem bu6 (hN : N ≤ 36) (h : BE N el w ps (BB 2 ((N + 1) * 4096)) r) : BE N el w ps (BB 3 4096) r := by
  refine h.up (fun v q => ?_) (fun v hv q => ?_)
  · unfold BB at *
    omega
  · unfold BB at *
    rcases v with _ | ⟨a, _ | ⟨b, _ | ⟨c, _ | ⟨e, _⟩⟩⟩⟩
    · exact Or.inl (Nat.le_of_ble_eq_true rfl)
    · exact Or.inl (Nat.le_of_ble_eq_true rfl)
    · refine Or.inr ⟨rfl, ?_⟩
      have hv := hv.1
      show (a + 1) * 4096 + (b + 1) * 64 < (N + 1) * 4096
      omega
    · exfalso
      rcases q with q | ⟨-, q⟩
      · exact absurd q (Nat.lt_irrefl 3)
      · have q : (a + 1) * 4096 + (b + 1) * 64 + (c + 1) < 4096 := q
        omega
    · exact absurd hv id
/-- three cells -/
theorem dn3 {a b c : Nat} : dn [a, b, c] = (a + 1) * 4096 + (b + 1) * 64 + (c + 1) := rfl
theorem len3 {v : List Nat} (h : v.length = 3) : ∃ a b c, v = [a, b, c] := by
  rcases v with _ | ⟨a, _ | ⟨b, _ | ⟨c, _ | ⟨e, _⟩⟩⟩⟩
  · simp at h
  · simp at h
  · simp at h
  · exact ⟨a, b, c, rfl⟩
  · simp at h
/-- the same sets of three cells, told by two numbers -/
theorem bu_3 {m m' : Nat} (h : BE N el w ps (BB 3 m) r) (hm : m ≤ m') (k : ∀ a b c, a < b → b < c → c < N → (a + 1) * 4096 + (b + 1) * 64 + (c + 1) < m' → (a + 1) * 4096 + (b + 1) * 64 + (c + 1) < m) : BE N el w ps (BB 3 m') r := by
  refine h.up (fun v q => ?_) (fun v hv q => ?_)
  · unfold BB at *
    omega
  · unfold BB at *
    rcases q with q | ⟨q1, q2⟩
    · exact Or.inl q
    · obtain ⟨a, b, c, rfl⟩ := len3 q1
      exact Or.inr ⟨rfl, k a b c hv.1.1 hv.1.2.1 hv.1.2.2 q2⟩
theorem bu8 {a b c m m' : Nat} (h : BE N el w ps (fun v => BB 3 m v ∨ v = [a, b, c]) r) (hm : m < m') (hd : dn [a, b, c] < m') (k : ∀ a' b' c', a' < b' → b' < c' → c' < N → (a' + 1) * 4096 + (b' + 1) * 64 + (c' + 1) < m' → (a' + 1) * 4096 + (b' + 1) * 64 + (c' + 1) < m ∨ (a' = a ∧ b' = b ∧ c' = c)) : BE N el w ps (BB 3 m') r := by
  refine h.up (fun v q => ?_) (fun v hv q => ?_)
  · unfold BB at *
    rcases q with q | rfl
    · omega
    · exact Or.inr ⟨rfl, hd⟩
  · unfold BB at *
    rcases q with q | ⟨q1, q2⟩
    · exact Or.inl (Or.inl q)
    · obtain ⟨a', b', c', rfl⟩ := len3 q1
      rcases k a' b' c' hv.1.1 hv.1.2.1 hv.1.2.2 q2 with z | ⟨rfl, rfl, rfl⟩
      · exact Or.inl (Or.inr ⟨rfl, z⟩)
      · exact Or.inr rfl
set_option maxRecDepth 100000 in
theorem bu9 {m : Nat} (hN : N ≤ 36) (h : BE N el w ps (BB 3 m) r) (hm : (N + 1) * 4096 ≤ m) : BE N el w ps (fun _ => True) r := by
  refine h.up (fun _ _ => trivial) (fun v hv _ => ?_)
  unfold BB
  have h3 := zokl_len hv
  by_cases e : v.length < 3
  · exact Or.inl e
  · refine Or.inr ⟨by omega, ?_⟩
    obtain ⟨a, b, c, rfl⟩ := len3 (v := v) (by omega)
    have hv := hv.1
    rw [dn3]
    refine Nat.lt_of_lt_of_le ?_ hm
    have : (a + 1) * 4096 + 4096 ≤ (N + 1) * 4096 := by omega
    omega
end
section
variable {N a b c a' b' c' : Nat}
set_option maxRecDepth 100000 in
theorem ar1 (hN : N ≤ 36) (h1 : a' < b') (h2 : b' < c') (h3 : c' < N) (h : (a' + 1) * 4096 + (b' + 1) * 64 + (c' + 1) < (a + 1) * 4096 + (a + 2) * 64) (ha : a < N) : (a' + 1) * 4096 + (b' + 1) * 64 + (c' + 1) < (a + 1) * 4096 := by
  by_cases e : a' < a
  · omega
  · exfalso
    by_cases e2 : a' = a
    · subst e2; omega
    · omega
set_option maxRecDepth 100000 in
theorem ar2 (hN : N ≤ 36) (h1 : a' < b') (h2 : b' < c') (h3 : c' < N) (h : (a' + 1) * 4096 + (b' + 1) * 64 + (c' + 1) < (a + 1) * 4096 + (b + 1) * 64 + (b + 2)) (hb : b < N) : (a' + 1) * 4096 + (b' + 1) * 64 + (c' + 1) < (a + 1) * 4096 + (b + 1) * 64 := by
  by_cases e : a' = a
  · subst e
    by_cases e2 : b' < b
    · omega
    · exfalso
      by_cases e3 : b' = b
      · subst e3; omega
      · omega
  · omega
set_option maxRecDepth 100000 in
theorem ar3 (hN : N ≤ 36) (h1 : a' < b') (h2 : b' < c') (h3 : c' < N) (hb : b < N) (hc : c < N) (h : (a' + 1) * 4096 + (b' + 1) * 64 + (c' + 1) < (a + 1) * 4096 + (b + 1) * 64 + (c + 2)) : (a' + 1) * 4096 + (b' + 1) * 64 + (c' + 1) < (a + 1) * 4096 + (b + 1) * 64 + (c + 1) ∨ (a' = a ∧ b' = b ∧ c' = c) := by
  by_cases q : (a' + 1) * 4096 + (b' + 1) * 64 + (c' + 1) < (a + 1) * 4096 + (b + 1) * 64 + (c + 1)
  · exact Or.inl q
  · right
    have ec : (a' * 64 + b') * 64 + c' = (a * 64 + b) * 64 + c := by omega
    have ea : a' * 64 + b' = a * 64 + b := by omega
    have ea2 : a' = a := by omega
    subst ea2
    have eb : b' = b := by omega
    subst eb
    exact ⟨rfl, rfl, by omega⟩
set_option maxRecDepth 100000 in
theorem ar4 (hN : N ≤ 36) (h1 : a' < b') (h2 : b' < c') (h3 : c' < N) (h : (a' + 1) * 4096 + (b' + 1) * 64 + (c' + 1) < (a + 1) * 4096 + (b + 2) * 64) (hb : b < N) : (a' + 1) * 4096 + (b' + 1) * 64 + (c' + 1) < (a + 1) * 4096 + (b + 1) * 64 + (N + 1) := by
  by_cases e : a' * 64 + b' = a * 64 + b
  · omega
  · omega
set_option maxRecDepth 100000 in
theorem ar5 (hN : N ≤ 36) (h1 : a' < b') (h2 : b' < c') (h3 : c' < N) (h : (a' + 1) * 4096 + (b' + 1) * 64 + (c' + 1) < (a + 2) * 4096) : (a' + 1) * 4096 + (b' + 1) * 64 + (c' + 1) < (a + 1) * 4096 + (N + 1) * 64 := by
  by_cases e : a' = a
  · subst e; omega
  · omega
end
