/-! The sets of cells, in the order in which they are gone through; the best of them. -/
def sch (cv : Bool) (x : Nat) (hb k old : Int32) (s : Nat → Int32) : Nat → Int32 := if cv = true then upd s (72 + x) hb else spl x k old s
def sap (σ : zM) (cv : Bool) (x : Nat) (s : Nat → Int32) : Nat → Int32 := sch cv x (nI 1) (σ 1 x) (nI 0) s
def sal (σ : zM) (cv : Bool) (l : List Nat) : Nat → Int32 := l.foldl (fun s x => sap σ cv x s) (σ 3)
def eli (σ : zM) (cv : Bool) (x : Nat) : Prop := if cv = true then σ 3 (72 + x) = nI 0 else ¬ σ 3 x = σ 1 x
def pas (σ : zM) (cv : Bool) (l : List Nat) : Prop := ¬ σ 0 2 < nI (sfine σ (sal σ cv l))
def kwt (σ : zM) (cv : Bool) (x : Nat) : Nat := if cv = true then 0 else zz (σ 1 x)
def kw (w : Nat → Nat) : List Nat → Nat
  | [] => 0
  | [a] => w a
  | [a, b] => w a + w b
  | [a, b, c] => w a + w b + w c
  | _ => 0
def dn : List Nat → Nat
  | [] => 0
  | [a] => (a + 1) * 4096
  | [a, b] => (a + 1) * 4096 + (b + 1) * 64
  | [a, b, c] => (a + 1) * 4096 + (b + 1) * 64 + (c + 1)
  | _ => 0
def zokl (N : Nat) (el : Nat → Prop) : List Nat → Prop
  | [] => True
  | [a] => a < N ∧ el a
  | [a, b] => (a < b ∧ b < N) ∧ el a ∧ el b
  | [a, b, c] => (a < b ∧ b < c ∧ c < N) ∧ el a ∧ el b ∧ el c
  | _ => False
def wid : List Nat → Nat
  | [] => 262144
  | [_] => 4096
  | [_, _] => 64
  | _ => 1
/-- one step further, behind the set -/
def wi2 : List Nat → Nat
  | [] => 4096
  | [_] => 64
  | _ => 1
def nxt : List Nat → Nat
  | [] => 0
  | [a] => a + 1
  | [_, b] => b + 1
  | [_, _, c] => c + 1
  | _ => 0
theorem zokl_len {N : Nat} {el : Nat → Prop} {l : List Nat} (h : zokl N el l) : l.length ≤ 3 := by
  rcases l with _ | ⟨a, _ | ⟨b, _ | ⟨c, _ | ⟨e, _⟩⟩⟩⟩
  · exact Nat.le_of_ble_eq_true rfl
  · exact Nat.le_of_ble_eq_true rfl
  · exact Nat.le_of_ble_eq_true rfl
  · exact Nat.le_of_ble_eq_true rfl
  · exact absurd h id
theorem zokl_lt {N : Nat} {el : Nat → Prop} {l : List Nat} (h : zokl N el l) : ∀ x, x ∈ l → x < N ∧ x < nxt l := by
  intro x hx
  rcases l with _ | ⟨a, _ | ⟨b, _ | ⟨c, _ | ⟨e, _⟩⟩⟩⟩
  · cases hx
  · rw [List.mem_singleton] at hx
    subst hx
    exact ⟨h.1, Nat.lt_succ_self _⟩
  · have h1 := h.1
    simp only [List.mem_cons, List.not_mem_nil, or_false] at hx
    show x < N ∧ x < b + 1
    omega
  · have h1 := h.1
    simp only [List.mem_cons, List.not_mem_nil, or_false] at hx
    show x < N ∧ x < c + 1
    omega
  · exact absurd h id
theorem nxt_le {N : Nat} {el : Nat → Prop} {l : List Nat} (h : zokl N el l) : nxt l ≤ N := by
  rcases l with _ | ⟨a, _ | ⟨b, _ | ⟨c, _ | ⟨e, _⟩⟩⟩⟩
  · exact Nat.zero_le _
  · exact h.1
  · exact h.1.2
  · exact h.1.2.2
  · exact absurd h id
theorem dA {a a' B B' : Nat} (h1 : (a + 1) * 4096 + B ≤ (a' + 1) * 4096 + B') (h2 : (a' + 1) * 4096 + B' < (a + 1) * 4096 + 4096) (h3 : B' < 4096) : a' = a := by omega
theorem dB {b b' C C' : Nat} (h1 : (b + 1) * 64 + C ≤ (b' + 1) * 64 + C') (h2 : (b' + 1) * 64 + C' < (b + 1) * 64 + 64) (h3 : C' < 64) : b' = b := by omega
-- between a set and the next one of its size are those that it begins
set_option maxRecDepth 100000 in
theorem dn_ext {N : Nat} {el : Nat → Prop} {w : Nat → Nat} {l v : List Nat} (hN : N ≤ 36) (hl : zokl N el l) (hv : zokl N el v) (h1 : dn l ≤ dn v) (h2 : dn v < dn l + wid l) : kw w l ≤ kw w v ∧ l.length ≤ v.length ∧ (v.length = l.length → v = l) := by
  rcases l with _ | ⟨a, _ | ⟨b, _ | ⟨c, _ | ⟨e, _⟩⟩⟩⟩
  · exact ⟨Nat.zero_le _, Nat.zero_le _, fun q => List.eq_nil_of_length_eq_zero q⟩
  · rcases v with _ | ⟨a', _ | ⟨b', _ | ⟨c', _ | ⟨e', _⟩⟩⟩⟩
    · simp only [dn, wid, wi2, zokl] at h1 h2 hl hv
      omega
    · simp only [dn, wid, wi2, zokl] at h1 h2 hl hv
      have ea : a' = a := dA (B := 0) (B' := 0) (by omega) (by omega) (by omega)
      subst ea
      exact ⟨Nat.le_refl _, Nat.le_of_ble_eq_true rfl, fun _ => rfl⟩
    · simp only [dn, wid, wi2, zokl] at h1 h2 hl hv
      have ea : a' = a := dA (B := 0) (B' := (b' + 1) * 64) (by omega) (by omega) (by omega)
      subst ea
      exact ⟨Nat.le_add_right _ _, Nat.le_of_ble_eq_true rfl, fun q => absurd q (Nat.ne_of_beq_eq_false rfl)⟩
    · simp only [dn, wid, wi2, zokl] at h1 h2 hl hv
      have ea : a' = a := dA (B := 0) (B' := (b' + 1) * 64 + (c' + 1)) (by omega) (by omega) (by omega)
      subst ea
      exact ⟨Nat.le_trans (Nat.le_add_right _ _) (Nat.le_add_right _ _), Nat.le_of_ble_eq_true rfl, fun q => absurd q (Nat.ne_of_beq_eq_false rfl)⟩
    · exact absurd hv id
  · rcases v with _ | ⟨a', _ | ⟨b', _ | ⟨c', _ | ⟨e', _⟩⟩⟩⟩
    · simp only [dn, wid, wi2, zokl] at h1 h2 hl hv
      omega
    · simp only [dn, wid, wi2, zokl] at h1 h2 hl hv
      have ea : a' = a := dA (B := (b + 1) * 64) (B' := 0) (by omega) (by omega) (by omega)
      subst ea
      omega
    · simp only [dn, wid, wi2, zokl] at h1 h2 hl hv
      have ea : a' = a := dA (B := (b + 1) * 64) (B' := (b' + 1) * 64) (by omega) (by omega) (by omega)
      subst ea
      have eb : b' = b := dB (C := 0) (C' := 0) (by omega) (by omega) (by omega)
      subst eb
      exact ⟨Nat.le_refl _, Nat.le_of_ble_eq_true rfl, fun _ => rfl⟩
    · simp only [dn, wid, wi2, zokl] at h1 h2 hl hv
      have ea : a' = a := dA (B := (b + 1) * 64) (B' := (b' + 1) * 64 + (c' + 1)) (by omega) (by omega) (by omega)
      subst ea
      have eb : b' = b := dB (C := 0) (C' := (c' + 1)) (by omega) (by omega) (by omega)
      subst eb
      exact ⟨Nat.le_add_right _ _, Nat.le_of_ble_eq_true rfl, fun q => absurd q (Nat.ne_of_beq_eq_false rfl)⟩
    · exact absurd hv id
  · rcases v with _ | ⟨a', _ | ⟨b', _ | ⟨c', _ | ⟨e', _⟩⟩⟩⟩
    · simp only [dn, wid, wi2, zokl] at h1 h2 hl hv
      omega
    · simp only [dn, wid, wi2, zokl] at h1 h2 hl hv
      have ea : a' = a := dA (B := (b + 1) * 64 + (c + 1)) (B' := 0) (by omega) (by omega) (by omega)
      subst ea
      omega
    · simp only [dn, wid, wi2, zokl] at h1 h2 hl hv
      have ea : a' = a := dA (B := (b + 1) * 64 + (c + 1)) (B' := (b' + 1) * 64) (by omega) (by omega) (by omega)
      subst ea
      have eb : b' = b := dB (C := (c + 1)) (C' := 0) (by omega) (by omega) (by omega)
      subst eb
      omega
    · simp only [dn, wid, wi2, zokl] at h1 h2 hl hv
      have ea : a' = a := dA (B := (b + 1) * 64 + (c + 1)) (B' := (b' + 1) * 64 + (c' + 1)) (by omega) (by omega) (by omega)
      subst ea
      have eb : b' = b := dB (C := (c + 1)) (C' := (c' + 1)) (by omega) (by omega) (by omega)
      subst eb
      have ec : c' = c := by omega
      subst ec
      exact ⟨Nat.le_refl _, Nat.le_of_ble_eq_true rfl, fun _ => rfl⟩
    · exact absurd hv id
  · exact absurd hl id
/-- before the first that it begins -/
theorem dn_fst {N : Nat} {el : Nat → Prop} {l v : List Nat} (hN : N ≤ 36) (hl : zokl N el l) (h3 : l.length < 3) (hv : zokl N el v) (h1 : dn l ≤ dn v) (h2 : dn v < dn l + (nxt l + 1) * wi2 l) : v = l := by
  have a := 0
  have b := 0
  have c := 0
  have a' := 0
  have b' := 0
  have c' := 0
  rcases l with _ | ⟨a, _ | ⟨b, _ | ⟨c, _⟩⟩⟩ <;> rcases v with _ | ⟨a', _ | ⟨b', _ | ⟨c', _ | ⟨e', _⟩⟩⟩⟩ <;> first
    | exact absurd hv id
    | (exfalso; simp at h3; omega)
    | rfl
    | (simp only [dn, wi2, zokl, nxt] at h1 h2 hl hv
       first
         | (exfalso; omega)
         | (obtain rfl : a' = a := by omega
            first
              | rfl
              | (obtain rfl : b' = b := by omega
                 rfl)))
theorem dn_app {l : List Nat} {x : Nat} (h3 : l.length < 3) : dn (l ++ [x]) = dn l + (x + 1) * wi2 l ∧ wid (l ++ [x]) = wi2 l ∧ nxt (l ++ [x]) = x + 1 := by
  rcases l with _ | ⟨a, _ | ⟨b, _ | ⟨c, _⟩⟩⟩
  · exact ⟨(Nat.zero_add _).symm, rfl, rfl⟩
  · exact ⟨rfl, rfl, rfl⟩
  · exact ⟨by show (a + 1) * 4096 + (b + 1) * 64 + (x + 1) = (a + 1) * 4096 + (b + 1) * 64 + (x + 1) * 1; omega, rfl, rfl⟩
  · simp at h3; omega
-- those that go on with x
set_option maxRecDepth 100000 in
theorem dn_mid {N x : Nat} {el : Nat → Prop} {l v : List Nat} (hN : N ≤ 36) (hl : zokl N el l) (h3 : l.length < 3) (hx : x < N) (hv : zokl N el v) (h1 : dn l + (x + 1) * wi2 l ≤ dn v) (h2 : dn v < dn l + (x + 2) * wi2 l) : el x := by
  rcases l with _ | ⟨a, _ | ⟨b, _ | ⟨c, _⟩⟩⟩
  · rcases v with _ | ⟨a', _ | ⟨b', _ | ⟨c', _ | ⟨e', _⟩⟩⟩⟩
    · simp only [dn, wid, wi2, zokl] at h1 h2 hl hv
      omega
    · simp only [dn, wid, wi2, zokl] at h1 h2 hl hv
      have ea : a' = x := dA (B := 0) (B' := 0) (by omega) (by omega) (by omega)
      subst ea
      exact hv.2
    · simp only [dn, wid, wi2, zokl] at h1 h2 hl hv
      have ea : a' = x := dA (B := 0) (B' := (b' + 1) * 64) (by omega) (by omega) (by omega)
      subst ea
      exact hv.2.1
    · simp only [dn, wid, wi2, zokl] at h1 h2 hl hv
      have ea : a' = x := dA (B := 0) (B' := (b' + 1) * 64 + (c' + 1)) (by omega) (by omega) (by omega)
      subst ea
      exact hv.2.1
    · exact absurd hv id
  · rcases v with _ | ⟨a', _ | ⟨b', _ | ⟨c', _ | ⟨e', _⟩⟩⟩⟩
    · simp only [dn, wid, wi2, zokl] at h1 h2 hl hv
      omega
    · simp only [dn, wid, wi2, zokl] at h1 h2 hl hv
      have ea : a' = a := dA (B := (x + 1) * 64) (B' := 0) (by omega) (by omega) (by omega)
      subst ea
      omega
    · simp only [dn, wid, wi2, zokl] at h1 h2 hl hv
      have ea : a' = a := dA (B := (x + 1) * 64) (B' := (b' + 1) * 64) (by omega) (by omega) (by omega)
      subst ea
      have eb : b' = x := dB (C := 0) (C' := 0) (by omega) (by omega) (by omega)
      subst eb
      exact hv.2.2
    · simp only [dn, wid, wi2, zokl] at h1 h2 hl hv
      have ea : a' = a := dA (B := (x + 1) * 64) (B' := (b' + 1) * 64 + (c' + 1)) (by omega) (by omega) (by omega)
      subst ea
      have eb : b' = x := dB (C := 0) (C' := (c' + 1)) (by omega) (by omega) (by omega)
      subst eb
      exact hv.2.2.1
    · exact absurd hv id
  · rcases v with _ | ⟨a', _ | ⟨b', _ | ⟨c', _ | ⟨e', _⟩⟩⟩⟩
    · simp only [dn, wid, wi2, zokl] at h1 h2 hl hv
      omega
    · simp only [dn, wid, wi2, zokl] at h1 h2 hl hv
      have ea : a' = a := dA (B := (b + 1) * 64 + (x + 1)) (B' := 0) (by omega) (by omega) (by omega)
      subst ea
      omega
    · simp only [dn, wid, wi2, zokl] at h1 h2 hl hv
      have ea : a' = a := dA (B := (b + 1) * 64 + (x + 1)) (B' := (b' + 1) * 64) (by omega) (by omega) (by omega)
      subst ea
      have eb : b' = b := dB (C := x + 1) (C' := 0) (by omega) (by omega) (by omega)
      subst eb
      omega
    · simp only [dn, wid, wi2, zokl] at h1 h2 hl hv
      have ea : a' = a := dA (B := (b + 1) * 64 + (x + 1)) (B' := (b' + 1) * 64 + (c' + 1)) (by omega) (by omega) (by omega)
      subst ea
      have eb : b' = b := dB (C := x + 1) (C' := (c' + 1)) (by omega) (by omega) (by omega)
      subst eb
      have ec : c' = x := by omega
      subst ec
      exact hv.2.2.2
    · exact absurd hv id
  · simp at h3; omega
-- none goes on with a cell that isn't there
set_option maxRecDepth 100000 in
theorem dn_end {N : Nat} {el : Nat → Prop} {l v : List Nat} (hN : N ≤ 36) (hl : zokl N el l) (h3 : l.length < 3) (hv : zokl N el v) (h1 : dn l + (N + 1) * wi2 l ≤ dn v) (h2 : dn v < dn l + wid l) : False := by
  rcases l with _ | ⟨a, _ | ⟨b, _ | ⟨c, _⟩⟩⟩
  · rcases v with _ | ⟨a', _ | ⟨b', _ | ⟨c', _ | ⟨e', _⟩⟩⟩⟩
    · simp only [dn, wid, wi2, zokl] at h1 h2 hl hv
      omega
    · simp only [dn, wid, wi2, zokl] at h1 h2 hl hv
      omega
    · simp only [dn, wid, wi2, zokl] at h1 h2 hl hv
      omega
    · simp only [dn, wid, wi2, zokl] at h1 h2 hl hv
      omega
    · exact absurd hv id
  · rcases v with _ | ⟨a', _ | ⟨b', _ | ⟨c', _ | ⟨e', _⟩⟩⟩⟩
    · simp only [dn, wid, wi2, zokl] at h1 h2 hl hv
      omega
    · simp only [dn, wid, wi2, zokl] at h1 h2 hl hv
      have ea : a' = a := dA (B := (N + 1) * 64) (B' := 0) (by omega) (by omega) (by omega)
      subst ea
      omega
    · simp only [dn, wid, wi2, zokl] at h1 h2 hl hv
      have ea : a' = a := dA (B := (N + 1) * 64) (B' := (b' + 1) * 64) (by omega) (by omega) (by omega)
      subst ea
      omega
    · simp only [dn, wid, wi2, zokl] at h1 h2 hl hv
      have ea : a' = a := dA (B := (N + 1) * 64) (B' := (b' + 1) * 64 + (c' + 1)) (by omega) (by omega) (by omega)
      subst ea
      omega
    · exact absurd hv id
  · rcases v with _ | ⟨a', _ | ⟨b', _ | ⟨c', _ | ⟨e', _⟩⟩⟩⟩
    · simp only [dn, wid, wi2, zokl] at h1 h2 hl hv
      omega
    · simp only [dn, wid, wi2, zokl] at h1 h2 hl hv
      have ea : a' = a := dA (B := (b + 1) * 64 + (N + 1)) (B' := 0) (by omega) (by omega) (by omega)
      subst ea
      omega
    · simp only [dn, wid, wi2, zokl] at h1 h2 hl hv
      have ea : a' = a := dA (B := (b + 1) * 64 + (N + 1)) (B' := (b' + 1) * 64) (by omega) (by omega) (by omega)
      subst ea
      have eb : b' = b := dB (C := N + 1) (C' := 0) (by omega) (by omega) (by omega)
      subst eb
      omega
    · simp only [dn, wid, wi2, zokl] at h1 h2 hl hv
      have ea : a' = a := dA (B := (b + 1) * 64 + (N + 1)) (B' := (b' + 1) * 64 + (c' + 1)) (by omega) (by omega) (by omega)
      subst ea
      have eb : b' = b := dB (C := N + 1) (C' := (c' + 1)) (by omega) (by omega) (by omega)
      subst eb
      omega
    · exact absurd hv id
  · simp at h3; omega
theorem zokl_app {N x : Nat} {el : Nat → Prop} {l : List Nat} (hl : zokl N el l) (h3 : l.length < 3) (h1 : nxt l ≤ x) (hx : x < N) (he : el x) : zokl N el (l ++ [x]) := by
  rcases l with _ | ⟨a, _ | ⟨b, _ | ⟨c, _⟩⟩⟩
  · exact ⟨hx, he⟩
  · exact ⟨⟨h1, hx⟩, hl.2, he⟩
  · exact ⟨⟨hl.1.1, h1, hx⟩, hl.2.1, hl.2.2, he⟩
  · simp at h3; omega
theorem kw_app {w : Nat → Nat} {l : List Nat} {x : Nat} (h3 : l.length < 3) : kw w (l ++ [x]) = kw w l + w x := by
  rcases l with _ | ⟨a, _ | ⟨b, _ | ⟨c, _⟩⟩⟩
  · exact (Nat.zero_add _).symm
  · rfl
  · rfl
  · simp at h3; omega
theorem dn_inj {N : Nat} {el : Nat → Prop} {l v : List Nat} (hN : N ≤ 36) (hl : zokl N el l) (hv : zokl N el v) (h : dn l = dn v) (hc : l.length = v.length) : l = v := by
  have hw : 1 ≤ wid l := by
    rcases l with _ | ⟨a, _ | ⟨b, _ | ⟨c, _⟩⟩⟩ <;> exact Nat.le_of_ble_eq_true rfl
  exact ((dn_ext (w := fun _ => 0) hN hl hv (by omega) (by omega)).2.2 hc.symm).symm
/-- s is as good as v -/
def kle (w : Nat → Nat) (s v : List Nat) : Prop := kw w s < kw w v ∨ (kw w s = kw w v ∧ (s.length < v.length ∨ (s.length = v.length ∧ dn s ≤ dn v)))
/-- r is the best of those of which P holds -/
def BE (N : Nat) (el : Nat → Prop) (w : Nat → Nat) (ps : List Nat → Prop) (P : List Nat → Prop) (r : Option (List Nat)) : Prop := match r with
  | none => ∀ v, zokl N el v → P v → ¬ ps v
  | some s => zokl N el s ∧ P s ∧ ps s ∧ ∀ v, zokl N el v → P v → ps v → kle w s v
section
variable {N : Nat} {el : Nat → Prop} {w : Nat → Nat} {ps P P' : List Nat → Prop} {r r' : Option (List Nat)} {l : List Nat}
theorem BE.grow (h : BE N el w ps P r) (h1 : ∀ v, zokl N el v → P v → P' v) (h2 : ∀ v, zokl N el v → P' v → P v ∨ ¬ ps v) : BE N el w ps P' r := by
  rcases r with _ | s
  · exact fun v hv hp => (h2 v hv hp).elim (fun q => h v hv q) id
  · obtain ⟨k1, k2, k3, k4⟩ := h
    exact ⟨k1, h1 s k1 k2, k3, fun v hv hp hs => k4 v hv ((h2 v hv hp).resolve_right fun q => q hs) hs⟩
theorem BE.one (hN : N ≤ 36) (h : BE N el w ps (fun _ => True) r) (h' : BE N el w ps (fun _ => True) r') : r = r' := by
  rcases r with _ | s <;> rcases r' with _ | s'
  · rfl
  · exact absurd h'.2.2.1 (h s' h'.1 trivial)
  · exact absurd h.2.2.1 (h' s h.1 trivial)
  · have a1 := h.2.2.2 s' h'.1 trivial h'.2.2.1
    have a2 := h'.2.2.2 s h.1 trivial h.2.2.1
    unfold kle at a1 a2
    rw [dn_inj hN h.1 h'.1 (by omega) (by omega)]
/-- a set that is better than what was found is found; what it begins needn't be looked at -/
theorem BE.take (hN : N ≤ 36) (hl : zokl N el l) (hp : ps l) (h : BE N el w ps (fun v => dn v < dn l) r) (hb : ∀ s, r = some s → kw w l < kw w s ∨ (kw w l = kw w s ∧ l.length < s.length)) : BE N el w ps (fun v => dn v < dn l + wid l) (some l) := by
  have hw : 1 ≤ wid l := by
    rcases l with _ | ⟨a, _ | ⟨b, _ | ⟨c, _⟩⟩⟩ <;> exact Nat.le_of_ble_eq_true rfl
  refine ⟨hl, by omega, hp, fun v hv hP hs => ?_⟩
  by_cases q : dn v < dn l
  · rcases r with _ | s
    · exact absurd hs (h v hv q)
    · have h1 := hb s rfl
      have h2 := h.2.2.2 v hv q hs
      unfold kle at *
      omega
  · have := dn_ext (w := w) hN hl hv (by omega) hP
    unfold kle
    by_cases e : v.length = l.length
    · rw [this.2.2 e]; omega
    · omega
/-- what isn't better isn't found, nor what it begins -/
theorem BE.skip {s : List Nat} (hN : N ≤ 36) (hl : zokl N el l) (h : BE N el w ps (fun v => dn v < dn l) (some s)) (hb : ¬ (kw w l < kw w s ∨ (kw w l = kw w s ∧ l.length < s.length))) : BE N el w ps (fun v => dn v < dn l + wid l) (some s) := by
  refine ⟨h.1, by have := h.2.1; omega, h.2.2.1, fun v hv hP hs => ?_⟩
  by_cases q : dn v < dn l
  · exact h.2.2.2 v hv q hs
  · have h1 := dn_ext (w := w) hN hl hv (by omega) hP
    have h2 := h.2.1
    unfold kle
    by_cases e : v.length = l.length
    · have := h1.2.2 e
      subst this
      omega
    · omega
end
