/-! A second picture: the cells stand at fixed places; only what they hold changes. -/
abbrev zM : Type := Nat → Nat → Int32
/-- how many towns were made by the way; what the two pasts name -/
abbrev zD : Type := Nat × (Nat → Option Nat) × (Nat → Option Nat)
def u2 (ct : zM) (a k : Nat) (v : Int32) : zM := fun b => if b = a then upd (ct a) k v else ct b
/-- the kinds of cells: an object's class, or 10 + an array's kind, and its length -/
def zT : List (Nat × Nat) := [(0, 0), (1, 0), (11, 200), (2, 0), (10, 36), (10, 4), (3, 0), (10, 36), (10, 36), (12, 36), (10, 4), (2, 0), (10, 36), (10, 4), (3, 0), (10, 36), (10, 36), (12, 36), (4, 0), (13, 8), (4, 0), (13, 8), (3, 0), (10, 36), (10, 36), (12, 36), (5, 0), (10, 36), (6, 0), (10, 3), (10, 3), (10, 6), (10, 6), (7, 0), (10, 81), (10, 81), (10, 111), (10, 111), (10, 888), (10, 222), (10, 200), (10, 12), (10, 4), (10, 3), (10, 3)]
def zT4 : List (Nat × Nat) := [(3, 0), (10, 36), (10, 36), (12, 36)]
/-- D.1: 0 before the reference is made; else one more than the towns made by the way -/
def zsh (D : zD) (a : Nat) : Nat × Nat := if a < 33 then zT.getD a (99, 0) else if D.1 = 0 then (99, 0) else if a < 45 then zT.getD a (99, 0) else if (a - 45) / 4 < D.1 - 1 then zT4.getD ((a - 45) % 4) (99, 0) else (99, 0)
def zDm (E : zD) : zD := (E.1 + 1, E.2)
def zobj (ci a : Nat) (r : Nat → Int32) : List Value := match ci with
  | 0 => [.ref 1, .ref 11, .ref 14, .ref 18, .ref 20, .ref 22, .ref 26, .ref 28, .ref 31, .ref 32, .int (r 10)]
  | 1 => [.ref 2, .int (r 1), .ref 3, .ref 6, .ref 10, .int (r 5), .int (r 6)]
  | 2 => [.int (r 0), .int (r 1), .int (r 2), .ref (a + 1), .ref (a + 2)]
  | 3 => [.ref (a + 1), .ref (a + 2), .ref (a + 3), .int (r 3), .int (r 4), .int (r 5)]
  | 4 => [.ref (a + 1), .int (r 1), .int (r 2)]
  | 5 => [.ref 11, .ref 22, .ref 27, .int (r 3), .int (r 4), .int (r 5)]
  | 6 => [.ref 11, .ref 22, .ref 26, .ref 29, .ref 30, .int (r 5), .int (r 6), .int (r 7), .int (r 8)]
  | 7 => [.ref 34, .ref 35, .ref 36, .ref 37, .ref 38, .int (r 5), .ref 39, .int (r 7), .ref 40, .int (r 9), .ref 41, .int (r 11), .int (r 12), .int (r 13), .ref 42, .ref 43, .ref 44, .int (r 17), .int (r 18)]
  | _ => []
def zc (D : zD) (a : Nat) (r : Nat → Int32) : Option xC :=
  if (zsh D a).1 < 8 then some (.inr ((zsh D a).1, zobj (zsh D a).1 a r))
  else if (zsh D a).1 = 10 then some (.inl (0, (zsh D a).2, .inl r))
  else if (zsh D a).1 = 11 then some (.inl (1, (zsh D a).2, .inl r))
  else if (zsh D a).1 = 12 then some (.inl (2, (zsh D a).2, .inl r))
  else if (zsh D a).1 = 13 then some (.inl (3, (zsh D a).2, .inr (if a = 19 then D.2.1 else D.2.2)))
  else none
def mk (D : zD) (ct : zM) : xHp := (if D.1 = 0 then 33 else 41 + 4 * D.1, if D.1 = 0 then 745 else 2366 + 114 * D.1, fun a => zc D a (ct a))
theorem hg_mk {D : zD} {ct : zM} {a : Nat} : hg (mk D ct) a = zc D a (ct a) := rfl
theorem zc_o {D : zD} {a ci n : Nat} {r : Nat → Int32} (h : zsh D a = (ci, n)) (hc : ci < 8) : zc D a r = some (.inr (ci, zobj ci a r)) := by
  unfold zc; rw [h]; exact if_pos hc
theorem zc_10 {D : zD} {a n : Nat} {r : Nat → Int32} (h : zsh D a = (10, n)) : zc D a r = some (.inl (0, n, .inl r)) := by
  unfold zc; rw [h]; rfl
theorem zc_11 {D : zD} {a n : Nat} {r : Nat → Int32} (h : zsh D a = (11, n)) : zc D a r = some (.inl (1, n, .inl r)) := by
  unfold zc; rw [h]; rfl
theorem zc_12 {D : zD} {a n : Nat} {r : Nat → Int32} (h : zsh D a = (12, n)) : zc D a r = some (.inl (2, n, .inl r)) := by
  unfold zc; rw [h]; rfl
theorem zc_13 {D : zD} {a n : Nat} {r : Nat → Int32} (h : zsh D a = (13, n)) : zc D a r = some (.inl (3, n, .inr (if a = 19 then D.2.1 else D.2.2))) := by
  unfold zc; rw [h]; rfl
/-- a change of one cell's contents -/
theorem xset_mk {D : zD} {ct : zM} {a k : Nat} {v : Int32} {c : xC} (h : some c = zc D a (upd (ct a) k v)) : xset (mk D ct) a c = mk D (u2 ct a k v) := by
  unfold xset mk
  refine Prod.ext rfl (Prod.ext rfl (funext fun b => ?_))
  show (if b = a then some c else zc D b (ct b)) = zc D b (u2 ct a k v b)
  unfold u2
  by_cases hb : b = a
  · subst hb
    rw [if_pos rfl, if_pos rfl]
    exact h
  · rw [if_neg hb, if_neg hb]
theorem zsh_c (D : zD) (a : Nat) : (a < 45 ∧ zsh D a = zT.getD a (99, 0)) ∨ zsh D a = (99, 0) ∨ (45 ≤ a ∧ 1 ≤ D.1 ∧ (a - 45) / 4 < D.1 - 1 ∧ zsh D a = zT4.getD ((a - 45) % 4) (99, 0)) := by
  unfold zsh
  by_cases h1 : a < 33
  · rw [if_pos h1]; exact Or.inl ⟨by omega, rfl⟩
  rw [if_neg h1]
  by_cases h2 : D.1 = 0
  · rw [if_pos h2]; exact Or.inr (Or.inl rfl)
  rw [if_neg h2]
  by_cases h3 : a < 45
  · rw [if_pos h3]; exact Or.inl ⟨h3, rfl⟩
  rw [if_neg h3]
  by_cases h4 : (a - 45) / 4 < D.1 - 1
  · rw [if_pos h4]; exact Or.inr (Or.inr ⟨by omega, by omega, h4, rfl⟩)
  · rw [if_neg h4]; exact Or.inr (Or.inl rfl)
theorem zsh_lo {D : zD} {a : Nat} (h : a < 33) : zsh D a = zT.getD a (99, 0) := if_pos h
theorem zsh_dy {D : zD} {a : Nat} (h1 : 45 ≤ a) (h2 : 1 ≤ D.1) (h3 : (a - 45) / 4 < D.1 - 1) : zsh D a = zT4.getD ((a - 45) % 4) (99, 0) := by
  unfold zsh
  rw [if_neg (by omega), if_neg (by omega), if_neg (by omega), if_pos h3]
/-- where towns may stand -/
theorem zsh_at {D : zD} {a : Nat} (h : zsh D a = (3, 0)) : a = 6 ∨ a = 14 ∨ a = 22 ∨ (45 ≤ a ∧ 1 ≤ D.1 ∧ (a - 45) / 4 < D.1 - 1 ∧ (a - 45) % 4 = 0) := by
  rcases zsh_c D a with ⟨h1, h2⟩ | h2 | ⟨h1, h2, h3, h4⟩
  · rw [h] at h2
    have key : ∀ a : Nat, a < 45 → (3, 0) = zT.getD a (99, 0) → a = 6 ∨ a = 14 ∨ a = 22 := by decide +kernel
    have := key a h1 h2
    omega
  · rw [h] at h2; cases h2
  · rw [h] at h4
    have key : ∀ k : Nat, k < 4 → (3, 0) = zT4.getD k (99, 0) → k = 0 := by decide +kernel
    have := key _ (Nat.mod_lt _ (by decide)) h4
    omega
theorem zsh_t (D : zD) (a : Nat) (h : zsh D a = (3, 0)) : zsh D (a + 1) = (10, 36) ∧ zsh D (a + 2) = (10, 36) ∧ zsh D (a + 3) = (12, 36) := by
  rcases zsh_at h with rfl | rfl | rfl | ⟨h1, h2, h3, h4⟩
  · exact ⟨rfl, rfl, rfl⟩
  · exact ⟨rfl, rfl, rfl⟩
  · exact ⟨rfl, rfl, rfl⟩
  · refine ⟨?_, ?_, ?_⟩
    · rw [zsh_dy (by omega) h2 (by omega), show (a + 1 - 45) % 4 = 1 by omega]; rfl
    · rw [zsh_dy (by omega) h2 (by omega), show (a + 2 - 45) % 4 = 2 by omega]; rfl
    · rw [zsh_dy (by omega) h2 (by omega), show (a + 3 - 45) % 4 = 3 by omega]; rfl
theorem zsh_t1 {D : zD} {a : Nat} (h : zsh D a = (3, 0)) : zsh D (a + 1) = (10, 36) := (zsh_t D a h).1
theorem zsh_t2 {D : zD} {a : Nat} (h : zsh D a = (3, 0)) : zsh D (a + 2) = (10, 36) := (zsh_t D a h).2.1
theorem zsh_t3 {D : zD} {a : Nat} (h : zsh D a = (3, 0)) : zsh D (a + 3) = (12, 36) := (zsh_t D a h).2.2
theorem zsh_p1 {D : zD} {a : Nat} (h : zsh D a = (2, 0)) : zsh D (a + 1) = (10, 36) ∧ zsh D (a + 2) = (10, 4) ∧ (a = 3 ∨ a = 11) := by
  rcases zsh_c D a with ⟨h1, h2⟩ | h2 | ⟨h1, h2, h3, h4⟩
  · rw [h] at h2
    have key : ∀ a : Nat, a < 45 → (2, 0) = zT.getD a (99, 0) → a = 3 ∨ a = 11 := by decide +kernel
    rcases key a h1 h2 with rfl | rfl
    · exact ⟨rfl, rfl, Or.inl rfl⟩
    · exact ⟨rfl, rfl, Or.inr rfl⟩
  · rw [h] at h2; cases h2
  · rw [h] at h4
    have key : ∀ k : Nat, k < 4 → (2, 0) = zT4.getD k (99, 0) → False := by decide +kernel
    exact (key _ (Nat.mod_lt _ (by decide)) h4).elim
theorem zsh_q1 {D : zD} {a : Nat} (h : zsh D a = (4, 0)) : zsh D (a + 1) = (13, 8) ∧ (a = 18 ∨ a = 20) := by
  rcases zsh_c D a with ⟨h1, h2⟩ | h2 | ⟨h1, h2, h3, h4⟩
  · rw [h] at h2
    have key : ∀ a : Nat, a < 45 → (4, 0) = zT.getD a (99, 0) → a = 18 ∨ a = 20 := by decide +kernel
    rcases key a h1 h2 with rfl | rfl
    · exact ⟨rfl, Or.inl rfl⟩
    · exact ⟨rfl, Or.inr rfl⟩
  · rw [h] at h2; cases h2
  · rw [h] at h4
    have key : ∀ k : Nat, k < 4 → (4, 0) = zT4.getD k (99, 0) → False := by decide +kernel
    exact (key _ (Nat.mod_lt _ (by decide)) h4).elim
/-- an index of a row -/
def zix (x : Int32) (j n : Nat) : Prop := x = nI j ∧ j < n ∧ n ≤ 1000
theorem zix_in {x : Int32} {j n : Nat} (h : zix x j n) : vp_in x n ∧ x.toNatClampNeg = j := by
  obtain ⟨rfl, h1, h2⟩ := h
  exact ⟨vp_in_nI h1 (by omega), nI_clamp (by omega)⟩
theorem zix_nI {j n : Nat} (h1 : j < n) (h2 : n ≤ 1000) : zix (nI j) j n := ⟨rfl, h1, h2⟩
