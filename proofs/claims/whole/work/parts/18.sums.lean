/-! The judge's sums, kept up and taken anew. -/
theorem zsum_upd {F : Nat → Nat} {g : Nat → Nat} {j v : Nat} : ∀ n, zsum (fun x => F (if x = j then v else g x)) n + (if j < n then F (g j) else 0) = zsum (fun x => F (g x)) n + (if j < n then F v else 0)
  | 0 => by simp [zsum]
  | n + 1 => by
    have ih := zsum_upd (F := F) (g := g) (j := j) (v := v) n
    show zsum _ n + F (if n = j then v else g n) + _ = zsum _ n + F (g n) + _
    by_cases h : n = j
    · subst h
      simp only [if_pos rfl, if_neg (Nat.lt_irrefl n), if_pos (Nat.lt_succ_self n), reduceIte] at ih ⊢
      omega
    · rw [if_neg h]
      by_cases h2 : j < n
      · rw [if_pos h2] at ih
        rw [if_pos h2] at ih
        rw [if_pos (by omega), if_pos (by omega)]
        omega
      · rw [if_neg h2] at ih
        rw [if_neg h2] at ih
        rw [if_neg (by omega), if_neg (by omega)]
        omega
theorem zring {A B o w : Nat} (h : B + o = A + w) : nI A + (-1) * nI o + nI 1 * nI w = nI B := by
  have h1 : nI B + nI o = nI A + nI w := by rw [nI_add, nI_add, h]
  have e1 : nI 1 = 1 := rfl
  rw [e1]
  grind
/-- the judge's books hold the prices g of n cells -/
def zJ (ct : zM) (g : Nat → Nat) (n : Nat) : Prop := (∀ j, j < n → ct 27 j = nI (g j)) ∧ ct 26 3 = nI (zS g n) ∧ ct 26 4 = nI (zL g n) ∧ ct 26 5 = nI (zW g n)
theorem zS_congr {f g : Nat → Nat} {n : Nat} (h : ∀ x, x < n → f x = g x) : zS f n = zS g n := zsum_congr (f := fun x => if f x ≤ 3 then f x else 0) (g := fun x => if g x ≤ 3 then g x else 0) n (fun x hx => by simp only [h x hx])
theorem zL_congr {f g : Nat → Nat} {n : Nat} (h : ∀ x, x < n → f x = g x) : zL f n = zL g n := zsum_congr (f := fun x => if f x ≤ 3 then 0 else f x) (g := fun x => if g x ≤ 3 then 0 else g x) n (fun x hx => by simp only [h x hx])
theorem zJ.congr {ct : zM} {f g : Nat → Nat} {n : Nat} (hJ : zJ ct f n) (h : ∀ x, x < n → f x = g x) : zJ ct g n := ⟨fun j hj => by rw [hJ.1 j hj, h j hj], by rw [hJ.2.1, zS_congr h], by rw [hJ.2.2.1, zL_congr h], by rw [hJ.2.2.2, zW_congr h]⟩
/-- the prices in the town that the judge looks at -/
def zft (ct : zM) (r c e : Nat) : Nat → Nat := fun j => zP r c (ct 12) (ct 23) (ct 24) (ct 25) (ct 22 3) e j
/-- the judge can look -/
def zTr (ct : zM) (r c e : Nat) : Prop := zV ct 11 r c ∧ (ct 22 4 = nI e ∧ e < 36) ∧ (∀ j, j < r * c → zk (ct 12 j)) ∧ ∀ j, j < r * c → zk (ct 23 j)
theorem zTr.of {ct ct' : zM} {r c e : Nat} (h : zTr ct r c e) (q : ∀ b, b ≠ 26 → b ≠ 27 → ct' b = ct b) : zTr ct' r c e ∧ zft ct' r c e = zft ct r c e := by
  have q1 := q 11 (by decide) (by decide)
  have q2 := q 12 (by decide) (by decide)
  have q3 := q 22 (by decide) (by decide)
  have q4 := q 23 (by decide) (by decide)
  have q5 := q 24 (by decide) (by decide)
  have q6 := q 25 (by decide) (by decide)
  unfold zTr zV zft at *
  rw [q1, q2, q3, q4, q5, q6]
  exact ⟨h, rfl⟩
theorem zft_le {ct : zM} {r c e j : Nat} : zft ct r c e j ≤ 20 := zP_le _ _ _ _ _ _ _ _ _
section
variable {X : Nat × (Nat → Int32)} {D : zD} {ct : zM} {d r c j p a o e : Nat}
/-- a cell looked at again -/
theorem e52 {g : Nat → Nat} (ht : zTr ct r c e) (hj : j < r * c) (hJ : zJ ct g (r * c)) (hg : g j ≤ 20) : CE X (d + 4) 52 [.ref 26, .int (nI j)] D ct (fun v D' ct' => v = none ∧ D = D' ∧ (∀ b, b ≠ 26 → b ≠ 27 → ct' b = ct b) ∧ zJ ct' (fun x => if x = j then zft ct r c e j else g x) (r * c) ∧ ∀ x, r * c ≤ x → ct' 27 x = ct 27 x) := by
  have hn := ht.1.n
  refine CE_of (Nat.le_of_ble_eq_true rfl) ?_
  refine b52_0 (e30y rfl ht.1 hj) ?_
  refine b52_8 (fun h => absurd h (by decide)) (fun _ => ?_)
  have zx : zix (nI j) j 36 := zix_nI (by omega) (by decide)
  obtain ⟨_, _, ct1, h1, rfl, rfl, a1, a2, a3, a4⟩ := e53 (X := X) (D := D) (ct := ct) (d := d + 2) (pr := g j) (s := -1) (by omega)
  refine b52_12 zx (by rw [hJ.1 j hj]; exact h1) ?_
  have ht1 := ht.of (ct' := ct1) fun b hb _ => a1 b hb
  refine b52_23 (e45 ht1.1.1 hj ht1.1.2.1 (ht1.1.2.2.1 j hj) (ht1.1.2.2.2 j hj)) ?_
  have ev : zP r c (ct1 12) (ct1 23) (ct1 24) (ct1 25) (ct1 22 3) e j = zft ct r c e j := by rw [← ht1.2]; rfl
  rw [ev]
  have hle : zft ct r c e j ≤ 20 := zft_le
  obtain ⟨_, _, ct2, h2, rfl, rfl, b1, b2, b3, b4⟩ := e53 (X := X) (D := D) (ct := u2 ct1 27 j (nI (zft ct r c e j))) (d := d + 2) (pr := zft ct r c e j) (s := nI 1) (by omega)
  refine b52_33 (ct1 := ct2) (D1 := D) zx zx ?_ (b52_45 (zQ_of ⟨rfl, rfl, fun b q1 q2 => ?_, ⟨fun x hx => ?_, ?_, ?_, ?_⟩, fun x hx => ?_⟩))
  · have : u2 ct1 27 j (nI (zft ct r c e j)) 27 j = nI (zft ct r c e j) := by simp [u2_a]
    rw [this]; exact h2
  · rw [b1 b q1, u2_n q2, a1 b q1]
  · rw [b1 27 (by decide), u2_a]
    by_cases hx2 : x = j
    · subst hx2; simp
    · rw [if_neg (fun z => hx2 z.2), a1 27 (by decide)]
      show ct 27 x = nI (if x = j then _ else g x)
      rw [if_neg hx2]; exact hJ.1 x hx
  · rw [b2, u2_n (by decide), a2, hJ.2.1]
    refine zring ?_
    have := zsum_upd (F := fun y => if y ≤ 3 then y else 0) (g := g) (j := j) (v := zft ct r c e j) (r * c)
    rw [if_pos hj, if_pos hj] at this
    exact this
  · rw [b3, u2_n (by decide), a3, hJ.2.2.1]
    refine zring ?_
    have := zsum_upd (F := fun y => if y ≤ 3 then 0 else y) (g := g) (j := j) (v := zft ct r c e j) (r * c)
    rw [if_pos hj, if_pos hj] at this
    exact this
  · rw [b4, u2_n (by decide), a4, hJ.2.2.2]
    refine zring ?_
    have := zsum_upd (F := fun y => if y = 0 then 0 else 1) (g := g) (j := j) (v := zft ct r c e j) (r * c)
    rw [if_pos hj, if_pos hj] at this
    exact this
  · rw [b1 27 (by decide), u2_a, if_neg (by omega), a1 27 (by decide)]
/-- looked at where nothing is -/
theorem e52n {x : Int32} (hv : zV ct 11 r c) (hx : ¬ ∃ j, j < r * c ∧ x = nI j) : EV X (d + 2) 52 [.ref 26, .int x] (mk D ct) none (mk D ct) :=
  EV_intro (Nat.le_of_ble_eq_true rfl) (b52_0 (e30n rfl hv hx) (b52_8 (fun _ => b52_11 ⟨rfl, rfl⟩) (fun h => absurd rfl h)))
theorem zS_le {g : Nat → Nat} {n : Nat} (h : ∀ x, x < n → g x ≤ 20) : zS g n ≤ 20 * n := zsum_le n fun x hx => by
  have := h x hx
  show (if g x ≤ 3 then g x else 0) ≤ 20
  split <;> omega
theorem zL_le {g : Nat → Nat} {n : Nat} (h : ∀ x, x < n → g x ≤ 20) : zL g n ≤ 20 * n := zsum_le n fun x hx => by
  have := h x hx
  show (if g x ≤ 3 then 0 else g x) ≤ 20
  split <;> omega
theorem zfine_le {g : Nat → Nat} {n : Nat} (h : ∀ x, x < n → g x ≤ 20) : zfine g n ≤ 40 * n := by
  have h1 := zS_le h
  have h2 := zL_le h
  unfold zfine
  omega
theorem e54 {g : Nat → Nat} {n : Nat} (hJ : zJ ct g n) (hg : ∀ x, x < n → g x ≤ 20) (hn : n ≤ 36) : EV X (d + 1) 54 [.ref 26] (mk D ct) (some (.int (nI (zfine g n)))) (mk D ct) := by
  have h1 := zS_le hg
  refine EV_intro (Nat.le_of_ble_eq_true rfl) (b54_0 ⟨?_, rfl⟩)
  rw [hJ.2.1, hJ.2.2.1, pk_div (by omega) (by decide) (by decide), nI_add]
  rfl
theorem zsum_0 : ∀ n, zsum (fun _ => 0) n = 0
  | 0 => rfl
  | n + 1 => zsum_0 n
theorem e51 (ht : zTr ct r c e) : CE X (d + 5) 51 [.ref 26] D ct (fun v D' ct' => v = some (.int (nI (zfine (zft ct r c e) (r * c)))) ∧ D = D' ∧ (∀ b, b ≠ 26 → b ≠ 27 → ct' b = ct b) ∧ zJ ct' (zft ct r c e) (r * c)) := by
  have hn := ht.1.n
  refine CE_of (Nat.le_of_ble_eq_true rfl) ?_
  refine b51_0 ?_
  refine z_loop0 36 (fun i ls ct1 => ls = [.ref 26, .int (nI i)] ∧ (∀ b, b ≠ 26 → b ≠ 27 → ct1 b = ct b) ∧ (∀ j, j < i → ct1 27 j = nI 0) ∧ ct1 26 3 = nI 0 ∧ ct1 26 4 = nI 0 ∧ ct1 26 5 = nI 0) ⟨rfl, fun b h1 h2 => by rw [u2_n h1, u2_n h1, u2_n h1], fun j hj => absurd hj (Nat.not_lt_zero _), by simp [u2_a], by simp [u2_a], by simp [u2_a]⟩ ?_ ?_
  · rintro i _ ct1 hi ⟨rfl, h1, h2, h3, h4, h5⟩ ih
    refine b51_17 (fun h => ?_) (fun _ => ?_)
    · rw [zle (by omega) (by omega)] at h; omega
    refine b51_23 (zix_nI hi (by decide)) (ih _ _ ⟨by rw [nI_add], fun b g1 g2 => by rw [u2_n g2, h1 b g1 g2], fun j hj => ?_, by rw [u2_n (by decide)]; exact h3, by rw [u2_n (by decide)]; exact h4, by rw [u2_n (by decide)]; exact h5⟩)
    rw [u2_a]
    by_cases hj2 : j = i
    · rw [if_pos ⟨rfl, hj2⟩]
    · rw [if_neg (fun z => hj2 z.2)]; exact h2 j (by omega)
  · rintro _ ct1 ⟨rfl, h1, h2, h3, h4, h5⟩
    refine b51_17 (fun _ => ?_) (fun h => absurd ((zle (by omega) (by omega)).2 (Nat.le_refl 36)) h)
    refine b51_36 ?_
    refine z_loop0 (r * c) (fun i ls ct2 => ls = [.ref 26, .int (nI i)] ∧ (∀ b, b ≠ 26 → b ≠ 27 → ct2 b = ct b) ∧ zJ ct2 (fun x => if x < i then zft ct r c e x else 0) (r * c)) ⟨rfl, h1, fun j hj => ?_, ?_, ?_, ?_⟩ ?_ ?_
    · show ct1 27 j = nI (if j < 0 then _ else 0)
      rw [h2 j (by omega), if_neg (Nat.not_lt_zero _)]
    · rw [h3]; simp [zS, zsum_0]
    · rw [h4]; simp [zL, zsum_0]
    · rw [h5]; simp [zW, zsum_0]
    · rintro i _ ct2 hi ⟨rfl, g1, g2⟩ ih
      obtain ⟨ht2, hf2⟩ := ht.of g1
      refine b51_38 (e36 rfl ht2.1) (b51_46 (fun h => ?_) (fun _ => ?_))
      · rw [zle (by omega) (by omega)] at h; omega
      obtain ⟨_, _, ct3, he, rfl, rfl, k1, k2, k3⟩ := e52 (X := X) (D := D) (d := d) ht2 hi g2 (by rw [if_neg (Nat.lt_irrefl i)]; omega)
      refine b51_49 he (b51_54 (ih _ _ ⟨by rw [nI_add], fun b q1 q2 => by rw [k1 b q1 q2, g1 b q1 q2], ?_⟩))
      have ee : (fun x => if x = i then zft ct2 r c e i else if x < i then zft ct r c e x else 0) = fun x => if x < i + 1 then zft ct r c e x else 0 := by
        funext x
        rw [hf2]
        by_cases hx : x = i
        · subst hx; rw [if_pos rfl, if_pos (by omega)]
        · rw [if_neg hx]
          by_cases hx2 : x < i
          · rw [if_pos hx2, if_pos (by omega)]
          · rw [if_neg hx2, if_neg (by omega)]
      rw [ee] at k2
      exact k2
    · rintro _ ct2 ⟨rfl, g1, g2⟩
      obtain ⟨ht2, hf2⟩ := ht.of g1
      refine b51_38 (e36 rfl ht2.1) (b51_46 (fun _ => ?_) (fun h => absurd ((zle (by omega) (by omega)).2 (Nat.le_refl _)) h))
      have hJ : zJ ct2 (zft ct r c e) (r * c) := g2.congr fun x hx => if_pos hx
      refine b51_60 (e54 hJ (fun x _ => zft_le) hn) (b51_64 (zQ_of ⟨rfl, rfl, g1, hJ⟩))
end
