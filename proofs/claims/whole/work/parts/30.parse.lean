/-! The text, as both sides read it: plain functions. A drawn town p: 0 rows, 1 columns, 2 limit, 3.. days, 7 wind, 8 eye, 9.. should be, 45.. is. -/
def pfg (c : Nat) : Bool := decide (48 ≤ c ∧ c ≤ 57)
def plt (n : Nat) (t : Nat → Nat) (a : Nat) : Nat := if a < n then t a else 0
def pnu (n : Nat) (t : Nat → Nat) (a : Nat) : Option (Nat × Nat) := if pfg (plt n t a) = true then (if pfg (plt n t (a + 1)) = true then some (10 * (plt n t a - 48) + (plt n t (a + 1) - 48), a + 2) else some (plt n t a - 48, a + 1)) else none
def pns (n : Nat) (t : Nat → Nat) : Nat → Nat → Option (List Nat × Nat)
  | 0, _ => none
  | k + 1, a => match pnu n t a with
    | none => none
    | some (v, b) => if plt n t b = 59 then some ([v], b + 1) else if plt n t b = 44 then (match pns n t k (b + 1) with
      | none => none
      | some (l, e) => some (v :: l, e)) else none
def prc (p : Nat → Int32) : Nat := (p 0).toNatClampNeg * (p 1).toNatClampNeg
def ptk (p : (Nat → Int32) × Bool) (c : Nat) (l : List Nat) : Option ((Nat → Int32) × Bool) := match l with
  | [x] => if c = 101 then some (upd p.1 8 (nI x), false) else if c = 119 ∧ x < 4 then some (upd p.1 7 (nI x), false) else if c = 108 then some (upd p.1 2 (nI x), false) else none
  | [x, y] => if c = 118 then (if p.2 = true ∧ (2 ≤ x ∧ x ≤ 6) ∧ (2 ≤ y ∧ y ≤ 6) then some (upd (upd p.1 0 (nI x)) 1 (nI y), true) else none)
    else if (c = 112 ∨ c = 105) ∧ x < prc p.1 ∧ y < 8 then some ((if c = 112 then upd (upd p.1 (9 + x) (nI y)) (45 + x) (nI y) else upd p.1 (45 + x) (nI y)), false) else none
  | [x, y, z, w] => if c = 103 ∧ x + y + z + w = 10 then some (upd (upd (upd (upd p.1 3 (nI x)) 4 (nI y)) 5 (nI z)) 6 (nI w), false) else none
  | _ => none
def pit (n : Nat) (t : Nat → Nat) (p : (Nat → Int32) × Bool) (a : Nat) : Option (((Nat → Int32) × Bool) × Nat) := match pns n t 4 (a + 1) with
  | none => none
  | some (l, e) => match ptk p (t a) l with
    | none => none
    | some q => some (q, e)
def prd (n : Nat) (t : Nat → Nat) : Nat → (Nat → Int32) × Bool → Nat → Option Nat × (Nat → Int32)
  | 0, p, _ => (none, p.1)
  | k + 1, p, a => if a < n then (match pit n t p a with
    | none => (some a, p.1)
    | some (q, e) => prd n t k q e) else (none, p.1)
/-- drawn before the text is read -/
def pd0 : Nat → Int32 := fun j => if j = 0 then nI 4 else if j = 1 then nI 5 else if j = 2 ∨ j = 3 then nI 10 else nI 0
/-- a good drawn town -/
def PW (p : Nat → Int32) : Prop := (∃ r, p 0 = nI r ∧ 2 ≤ r ∧ r ≤ 6) ∧ (∃ c, p 1 = nI c ∧ 2 ≤ c ∧ c ≤ 6) ∧ (∃ l, l ≤ 99 ∧ p 2 = nI l) ∧ (∃ g : Nat → Nat, (∀ j, j < 4 → p (3 + j) = nI (g j)) ∧ g 0 + g 1 + g 2 + g 3 = 10) ∧ (∃ e, e ≤ 99 ∧ p 8 = nI e) ∧ ∀ j, j < 36 → zk (p (9 + j)) ∧ zk (p (45 + j))
theorem pd0_w : PW pd0 := by
  refine ⟨⟨4, rfl, by decide, by decide⟩, ⟨5, rfl, by decide, by decide⟩, ⟨10, by decide, rfl⟩, ⟨fun j => if j = 0 then 10 else 0, fun j hj => ?_, rfl⟩, ⟨0, by decide, rfl⟩, fun j hj => ⟨⟨0, by decide, ?_⟩, ⟨0, by decide, ?_⟩⟩⟩
  · rcases (show j = 0 ∨ j = 1 ∨ j = 2 ∨ j = 3 by omega) with rfl | rfl | rfl | rfl <;> rfl
  · unfold pd0
    rw [if_neg (by omega), if_neg (by omega), if_neg (by omega)]
  · unfold pd0
    rw [if_neg (by omega), if_neg (by omega), if_neg (by omega)]
theorem pfg_l {c : Nat} (h : pfg c = true) : 48 ≤ c ∧ c ≤ 57 := by
  unfold pfg at h
  exact of_decide_eq_true h
theorem pnu_le {n a v b : Nat} {t : Nat → Nat} (h : pnu n t a = some (v, b)) : v ≤ 99 ∧ a < b ∧ b ≤ a + 2 := by
  unfold pnu at h
  split at h
  · next q =>
    have := pfg_l q
    split at h
    · next q2 =>
      have := pfg_l q2
      cases h
      omega
    · cases h
      omega
  · cases h
theorem pns_le {n : Nat} {t : Nat → Nat} : ∀ k a l e, pns n t k a = some (l, e) → a < e ∧ e ≤ a + 3 * k ∧ 1 ≤ l.length ∧ l.length ≤ k ∧ ∀ x, x ∈ l → x ≤ 99
  | 0, a, l, e, h => by cases h
  | k + 1, a, l, e, h => by
    unfold pns at h
    split at h
    · cases h
    · next v b q =>
      have hb := pnu_le q
      split at h
      · cases h
        exact ⟨by omega, by omega, Nat.le_refl _, by simp, fun x hx => by
          rw [List.mem_singleton] at hx
          omega⟩
      · split at h
        · split at h
          · cases h
          · next l2 e2 q2 =>
            have ih := pns_le k _ _ _ q2
            cases h
            refine ⟨by omega, by omega, by simp, ?_, fun x hx => ?_⟩
            · rw [List.length_cons]; omega
            · rcases List.mem_cons.mp hx with rfl | hx
              · omega
              · exact ih.2.2.2.2 x hx
        · cases h
theorem prc_le {p : Nat → Int32} (h : PW p) : prc p ≤ 36 := by
  obtain ⟨⟨r, hr, r1, r2⟩, ⟨c, hc, c1, c2⟩, -⟩ := h
  unfold prc
  rw [hr, hc, nI_clamp (by omega), nI_clamp (by omega)]
  exact Nat.mul_le_mul r2 c2
/-- what was drawn stays good -/
theorem ptk_w {p q : (Nat → Int32) × Bool} {c : Nat} {l : List Nat} (h : PW p.1) (hl : ∀ x, x ∈ l → x ≤ 99) (hq : ptk p c l = some q) : PW q.1 := by
  have hrc := prc_le h
  obtain ⟨⟨r, hr, r1, r2⟩, ⟨m, hm, m1, m2⟩, h3, h4, h5, h6⟩ := h
  unfold ptk at hq
  split at hq
  · next x =>
    have hx : x ≤ 99 := hl x (by simp)
    split at hq
    · cases hq
      refine ⟨⟨r, hr, r1, r2⟩, ⟨m, hm, m1, m2⟩, h3, ?_, ⟨x, hx, rfl⟩, fun j hj => ?_⟩
      · obtain ⟨g, g1, g2⟩ := h4
        exact ⟨g, fun j hj => by dsimp only; rw [pk_un (by omega)]; exact g1 j hj, g2⟩
      · dsimp only; rw [pk_un (by omega), pk_un (by omega)]; exact h6 j hj
    · split at hq
      · cases hq
        refine ⟨⟨r, hr, r1, r2⟩, ⟨m, hm, m1, m2⟩, h3, ?_, h5, fun j hj => ?_⟩
        · obtain ⟨g, g1, g2⟩ := h4
          exact ⟨g, fun j hj => by dsimp only; rw [pk_un (by omega)]; exact g1 j hj, g2⟩
        · dsimp only; rw [pk_un (by omega), pk_un (by omega)]; exact h6 j hj
      · split at hq
        · cases hq
          refine ⟨⟨r, hr, r1, r2⟩, ⟨m, hm, m1, m2⟩, ⟨x, hx, rfl⟩, ?_, h5, fun j hj => ?_⟩
          · obtain ⟨g, g1, g2⟩ := h4
            exact ⟨g, fun j hj => by dsimp only; rw [pk_un (by omega)]; exact g1 j hj, g2⟩
          · dsimp only; rw [pk_un (by omega), pk_un (by omega)]; exact h6 j hj
        · cases hq
  · next x y =>
    split at hq
    · split at hq
      · next q2 =>
        cases hq
        refine ⟨⟨x, rfl, q2.2.1.1, q2.2.1.2⟩, ⟨y, rfl, q2.2.2.1, q2.2.2.2⟩, h3, ?_, h5, fun j hj => ?_⟩
        · obtain ⟨g, g1, g2⟩ := h4
          exact ⟨g, fun j hj => by dsimp only; rw [pk_un (by omega), pk_un (by omega)]; exact g1 j hj, g2⟩
        · dsimp only; rw [pk_un (by omega), pk_un (by omega), pk_un (by omega), pk_un (by omega)]; exact h6 j hj
      · cases hq
    · split at hq
      · next q2 =>
        cases hq
        have hx : x < 36 := by omega
        have hy : zk (nI y) := ⟨y, q2.2.2, rfl⟩
        dsimp only
        have key : ∀ f : Nat → Int32, (∀ j, j < 9 → f j = p.1 j) → (∀ j, j < 36 → zk (f (9 + j)) ∧ zk (f (45 + j))) → PW f := by
          intro f f1 f2
          refine ⟨⟨r, (f1 0 (by decide)).trans hr, r1, r2⟩, ⟨m, (f1 1 (by decide)).trans hm, m1, m2⟩, ?_, ?_, ?_, f2⟩
          · rw [f1 2 (by decide)]; exact h3
          · obtain ⟨g, g1, g2⟩ := h4
            exact ⟨g, fun j hj => by rw [f1 (3 + j) (by omega)]; exact g1 j hj, g2⟩
          · rw [f1 8 (by decide)]; exact h5
        split
        · refine key _ (fun j hj => by rw [pk_un (by omega), pk_un (by omega)]) fun j hj => ⟨?_, ?_⟩
          · rw [pk_un (by omega)]
            by_cases e : j = x
            · rw [e, pk_us]; exact hy
            · rw [pk_un (by omega)]; exact (h6 j hj).1
          · by_cases e : j = x
            · rw [e, pk_us]; exact hy
            · rw [pk_un (by omega), pk_un (by omega)]; exact (h6 j hj).2
        · refine key _ (fun j hj => by rw [pk_un (by omega)]) fun j hj => ⟨?_, ?_⟩
          · rw [pk_un (by omega)]; exact (h6 j hj).1
          · by_cases e : j = x
            · rw [e, pk_us]; exact hy
            · rw [pk_un (by omega)]; exact (h6 j hj).2
      · cases hq
  · next x y z w =>
    split at hq
    · next q2 =>
      cases hq
      refine ⟨⟨r, hr, r1, r2⟩, ⟨m, hm, m1, m2⟩, h3, ⟨fun j => if j = 0 then x else if j = 1 then y else if j = 2 then z else w, fun j hj => ?_, q2.2⟩, h5, fun j hj => ?_⟩
      · rcases (show j = 0 ∨ j = 1 ∨ j = 2 ∨ j = 3 by omega) with rfl | rfl | rfl | rfl <;> rfl
      · dsimp only
        rw [pk_un (by omega), pk_un (by omega), pk_un (by omega), pk_un (by omega), pk_un (by omega), pk_un (by omega), pk_un (by omega), pk_un (by omega)]
        exact h6 j hj
    · cases hq
  · cases hq
theorem pit_w {n a e : Nat} {t : Nat → Nat} {p q : (Nat → Int32) × Bool} (h : PW p.1) (hq : pit n t p a = some (q, e)) : PW q.1 ∧ a < e := by
  unfold pit at hq
  split at hq
  · cases hq
  · next l e2 q2 =>
    have := pns_le _ _ _ _ q2
    split at hq
    · cases hq
    · next q3 q4 =>
      cases hq
      exact ⟨ptk_w h this.2.2.2.2 q4, by omega⟩
theorem prd_w {n : Nat} {t : Nat → Nat} : ∀ k p a, PW p.1 → PW (prd n t k p a).2
  | 0, p, a, h => h
  | k + 1, p, a, h => by
    unfold prd
    split
    · split
      · exact h
      · next q e q2 => exact prd_w k q e (pit_w h q2).1
    · exact h
theorem ptk_v {p q : (Nat → Int32) × Bool} {c : Nat} {l : List Nat} (h : zwi (p.1 7)) (hq : ptk p c l = some q) : zwi (q.1 7) := by
  unfold ptk at hq
  split at hq
  · split at hq
    · cases hq; dsimp only; rw [pk_un (by omega)]; exact h
    · split at hq
      · next q2 => cases hq; dsimp only; rw [pk_us]; exact ⟨_, q2.2, rfl⟩
      · split at hq
        · cases hq; dsimp only; rw [pk_un (by omega)]; exact h
        · cases hq
  · split at hq
    · split at hq
      · cases hq; dsimp only; rw [pk_un (by omega), pk_un (by omega)]; exact h
      · cases hq
    · split at hq
      · cases hq
        dsimp only
        split
        · rw [pk_un (by omega), pk_un (by omega)]; exact h
        · rw [pk_un (by omega)]; exact h
      · cases hq
  · split at hq
    · cases hq; dsimp only; rw [pk_un (by omega), pk_un (by omega), pk_un (by omega), pk_un (by omega)]; exact h
    · cases hq
  · cases hq
theorem pit_v {n a e : Nat} {t : Nat → Nat} {p q : (Nat → Int32) × Bool} (h : zwi (p.1 7)) (hq : pit n t p a = some (q, e)) : zwi (q.1 7) := by
  unfold pit at hq
  split at hq
  · cases hq
  · split at hq
    · cases hq
    · next q4 =>
      cases hq
      exact ptk_v h q4
theorem prd_v {n : Nat} {t : Nat → Nat} : ∀ k p a, zwi (p.1 7) → zwi ((prd n t k p a).2 7)
  | 0, p, a, h => h
  | k + 1, p, a, h => by
    unfold prd
    split
    · split
      · exact h
      · next q e q2 => exact prd_v k q e (pit_v h q2)
    · exact h
theorem prd_le {n : Nat} {t : Nat → Nat} : ∀ k p a x, (prd n t k p a).1 = some x → x < n
  | 0, p, a, x, h => by cases h
  | k + 1, p, a, x, h => by
    unfold prd at h
    split at h
    · split at h
      · cases h; assumption
      · exact prd_le k _ _ x h
    · cases h
