/-! What the judge sees, and what it costs: plain functions. -/
theorem zlt {a b : Nat} (ha : a < 1000000000) (hb : b < 1000000000) : nI a < nI b ↔ a < b := nI_ltI (by omega) (by omega)
theorem zle {a b : Nat} (ha : a < 1000000000) (hb : b < 1000000000) : nI a ≤ nI b ↔ a ≤ b := nI_leI (by omega) (by omega)
theorem zeq {a b : Nat} (ha : a < 1000000000) (hb : b < 1000000000) : nI a = nI b ↔ a = b := nI_eq (by omega) (by omega)
theorem u2_r {ct : zM} {a k : Nat} {v : Int32} : u2 ct a k v a = upd (ct a) k v := if_pos rfl
theorem u2_n {ct : zM} {a k b : Nat} {v : Int32} (h : b ≠ a) : u2 ct a k v b = ct b := if_neg h
theorem u2_a {ct : zM} {a k b j : Nat} {v : Int32} : u2 ct a k v b j = if b = a ∧ j = k then v else ct b j := by
  unfold u2 upd
  by_cases h1 : b = a
  · subst h1
    by_cases h2 : j = k
    · simp [h2]
    · simp [h2]
  · simp [h1]
def zk (v : Int32) : Prop := ∃ n, n < 8 ∧ v = nI n
def zb (v : Int32) : Prop := v = nI 0 ∨ v = nI 1
/-- how big a thing is -/
def zz (k : Int32) : Nat := if k = nI 1 then 4 else if k = nI 2 then 3 else if k = nI 3 then 2 else if k = nI 4 then 2 else if k = nI 5 then 3 else if k = nI 6 then 1 else if k = nI 7 then 2 else 0
theorem zz_xsz : ∀ n, n < 8 → xsz n = nI (zz (nI n)) := by decide
theorem zz_le (k : Int32) : zz k ≤ 4 := by
  unfold zz
  repeat' split
  all_goals omega
def zdist (c x e : Nat) : Nat := ((x / c - e / c) + (e / c - x / c)) + ((x % c - e % c) + (e % c - x % c))
def znear (c x e : Nat) : Nat := if zdist c x e < 4 then 5 - zdist c x e else 1
def zcost (c : Nat) (s w : Int32) (x e : Nat) : Nat := if s = w then 0 else (if zz s < zz w then zz w else zz s) * znear c x e
/-- smoke comes there -/
def zsmoke (r c : Nat) (is : Nat → Int32) (w : Int32) (x : Nat) : Bool := if w = nI 0 then decide (is x = nI 4) else if w = nI 1 then decide (x + c < r * c ∧ is (x + c) = nI 4) else if w = nI 2 then decide (0 < x % c ∧ is (x - 1) = nI 4) else if w = nI 3 then decide (x % c < c - 1 ∧ is (x + 1) = nI 4) else decide (is x = nI 4)
/-- a wind that there is -/
def zwi (v : Int32) : Prop := ∃ n, n < 4 ∧ v = nI n
def zsee (r c : Nat) (sh is ag hu : Nat → Int32) (w : Int32) (x : Nat) : Int32 :=
  if hu x = nI 0 then
    if is x = nI 0 ∨ is x = nI 4 then
      if x + c < r * c ∧ is (x + c) = nI 5 ∧ nI 3 ≤ ag (x + c) then nI 5
      else if zsmoke r c is w x = true then nI 4 else nI 0
    else is x
  else sh x
def zP (r c : Nat) (sh is ag hu : Nat → Int32) (w : Int32) (e x : Nat) : Nat := zcost c (zsee r c sh is ag hu w x) (sh x) x e
def zsum (f : Nat → Nat) : Nat → Nat
  | 0 => 0
  | n + 1 => zsum f n + f n
def zS (f : Nat → Nat) (n : Nat) : Nat := zsum (fun x => if f x ≤ 3 then f x else 0) n
def zL (f : Nat → Nat) (n : Nat) : Nat := zsum (fun x => if f x ≤ 3 then 0 else f x) n
def zW (f : Nat → Nat) (n : Nat) : Nat := zsum (fun x => if f x = 0 then 0 else 1) n
def zfine (f : Nat → Nat) (n : Nat) : Nat := zL f n + zS f n / 3
theorem zsum_le {f : Nat → Nat} {b : Nat} : ∀ n, (∀ x, x < n → f x ≤ b) → zsum f n ≤ b * n
  | 0, _ => Nat.zero_le _
  | n + 1, h => by
    have ih := zsum_le n fun x hx => h x (Nat.lt_succ_of_lt hx)
    have h1 := h n (Nat.lt_succ_self n)
    show zsum f n + f n ≤ b * (n + 1)
    rw [Nat.mul_succ]
    omega
theorem zsum_congr {f g : Nat → Nat} : ∀ n, (∀ x, x < n → f x = g x) → zsum f n = zsum g n
  | 0, _ => rfl
  | n + 1, h => by
    show zsum f n + f n = zsum g n + g n
    rw [zsum_congr n fun x hx => h x (Nat.lt_succ_of_lt hx), h n (Nat.lt_succ_self n)]
theorem zfine_congr {f g : Nat → Nat} {n : Nat} (h : ∀ x, x < n → f x = g x) : zfine f n = zfine g n := by
  unfold zfine zL zS
  rw [zsum_congr (f := fun x => if f x ≤ 3 then 0 else f x) (g := fun x => if g x ≤ 3 then 0 else g x) n (fun x hx => by simp only [h x hx]), zsum_congr (f := fun x => if f x ≤ 3 then f x else 0) (g := fun x => if g x ≤ 3 then g x else 0) n (fun x hx => by simp only [h x hx])]
theorem zW_congr {f g : Nat → Nat} {n : Nat} (h : ∀ x, x < n → f x = g x) : zW f n = zW g n := zsum_congr (f := fun x => if f x = 0 then 0 else 1) (g := fun x => if g x = 0 then 0 else 1) n (fun x hx => by simp only [h x hx])
theorem znear_le (c x e : Nat) : znear c x e ≤ 5 := by
  unfold znear
  split <;> omega
theorem znear_pos (c x e : Nat) : 1 ≤ znear c x e := by
  unfold znear
  split <;> omega
theorem zcost_le (c : Nat) (s w : Int32) (x e : Nat) : zcost c s w x e ≤ 20 := by
  unfold zcost
  split
  · omega
  · have h1 := znear_le c x e
    have h2 : (if zz s < zz w then zz w else zz s) ≤ 4 := by
      have := zz_le s
      have := zz_le w
      split <;> assumption
    exact Nat.mul_le_mul h2 h1
theorem zP_le (r c : Nat) (sh is ag hu : Nat → Int32) (w : Int32) (e x : Nat) : zP r c sh is ag hu w e x ≤ 20 := zcost_le _ _ _ _ _
theorem zz_inj : ∀ a, a < 8 → ∀ b, b < 8 → a ≠ b → 0 < (if zz (nI a) < zz (nI b) then zz (nI b) else zz (nI a)) := by decide
theorem zcost_pos {c : Nat} {s w : Int32} {x e : Nat} (hs : zk s) (hw : zk w) : zcost c s w x e = 0 ↔ s = w := by
  unfold zcost
  by_cases h : s = w
  · simp [h]
  · rw [if_neg h]
    obtain ⟨a, ha, rfl⟩ := hs
    obtain ⟨b, hb, rfl⟩ := hw
    have h1 := zz_inj a ha b hb (fun z => h (by rw [z]))
    have h2 := znear_pos c x e
    have := Nat.mul_pos h1 h2
    constructor
    · intro z; omega
    · intro z; exact absurd z h
theorem zright {r c x : Nat} (h : x < r * c) (h2 : x % c < c - 1) : x + 1 < r * c := by
  have hc : 0 < c := by omega
  have h3 : x / c < r := by rw [Nat.div_lt_iff_lt_mul hc]; exact h
  have h4 : (x / c + 1) * c ≤ r * c := Nat.mul_le_mul_right c h3
  have h5 := Nat.div_add_mod x c
  rw [Nat.mul_comm] at h5
  rw [Nat.succ_mul] at h4
  omega
theorem zleft {c x : Nat} (h : 0 < x % c) : 1 ≤ x := by
  rcases Nat.eq_zero_or_pos x with h1 | h1
  · subst h1; simp at h
  · exact h1
theorem zsee_k {r c x : Nat} {sh is ag hu : Nat → Int32} {w : Int32} (h1 : zk (sh x)) (h2 : zk (is x)) : zk (zsee r c sh is ag hu w x) := by
  unfold zsee
  split
  · split
    · split
      · exact ⟨5, by decide, rfl⟩
      · split
        · exact ⟨4, by decide, rfl⟩
        · exact ⟨0, by decide, rfl⟩
    · exact h2
  · exact h1
/-- rows that are alike in the view -/
theorem zsee_congr {r c x : Nat} {sh is ag hu sh' is' ag' hu' : Nat → Int32} {w : Int32} (hx : x < r * c) (h1 : ∀ j, j < r * c → sh j = sh' j) (h2 : ∀ j, j < r * c → is j = is' j) (h3 : ∀ j, j < r * c → is j = nI 5 → (nI 3 ≤ ag j ↔ nI 3 ≤ ag' j)) (h4 : ∀ j, j < r * c → hu j = hu' j) : zsee r c sh is ag hu w x = zsee r c sh' is' ag' hu' w x := by
  have e1 : zsmoke r c is w x = zsmoke r c is' w x := by
    unfold zsmoke
    rw [h2 x hx]
    have a1 : (x + c < r * c ∧ is (x + c) = nI 4) ↔ (x + c < r * c ∧ is' (x + c) = nI 4) := by
      constructor
      · rintro ⟨p, q⟩; exact ⟨p, by rw [← h2 _ p]; exact q⟩
      · rintro ⟨p, q⟩; exact ⟨p, by rw [h2 _ p]; exact q⟩
    have a2 : (0 < x % c ∧ is (x - 1) = nI 4) ↔ (0 < x % c ∧ is' (x - 1) = nI 4) := by
      constructor
      · rintro ⟨p, q⟩; exact ⟨p, by rw [← h2 _ (by omega)]; exact q⟩
      · rintro ⟨p, q⟩; exact ⟨p, by rw [h2 _ (by omega)]; exact q⟩
    have a3 : (x % c < c - 1 ∧ is (x + 1) = nI 4) ↔ (x % c < c - 1 ∧ is' (x + 1) = nI 4) := by
      constructor
      · rintro ⟨p, q⟩; exact ⟨p, by rw [← h2 _ (zright hx p)]; exact q⟩
      · rintro ⟨p, q⟩; exact ⟨p, by rw [h2 _ (zright hx p)]; exact q⟩
    simp only [a1, a2, a3]
  have e2 : (x + c < r * c ∧ is (x + c) = nI 5 ∧ nI 3 ≤ ag (x + c)) ↔ (x + c < r * c ∧ is' (x + c) = nI 5 ∧ nI 3 ≤ ag' (x + c)) := by
    constructor
    · rintro ⟨p, q, t⟩; exact ⟨p, by rw [← h2 _ p]; exact q, (h3 _ p q).1 t⟩
    · rintro ⟨p, q, t⟩
      have q' : is (x + c) = nI 5 := by rw [h2 _ p]; exact q
      exact ⟨p, q', (h3 _ p q').2 t⟩
  unfold zsee
  rw [h4 x hx, h2 x hx, h1 x hx, e1]
  simp only [e2]
theorem zP_congr {r c x e : Nat} {sh is ag hu sh' is' ag' hu' : Nat → Int32} {w : Int32} (hx : x < r * c) (h1 : ∀ j, j < r * c → sh j = sh' j) (h2 : ∀ j, j < r * c → is j = is' j) (h3 : ∀ j, j < r * c → is j = nI 5 → (nI 3 ≤ ag j ↔ nI 3 ≤ ag' j)) (h4 : ∀ j, j < r * c → hu j = hu' j) : zP r c sh is ag hu w e x = zP r c sh' is' ag' hu' w e x := by
  unfold zP
  rw [zsee_congr hx h1 h2 h3 h4, h1 x hx]
