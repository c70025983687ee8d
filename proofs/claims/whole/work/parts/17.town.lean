/-! The class: towns copied, changed; the judge's sums. -/
theorem z_loop {X : Nat × (Nat → Int32)} {C : Nat → List Value → xHp → Option Value → xHp → Prop} {m : Nat} {Q : Option Value → xHp → Prop} {D : zD} {hd N : Nat} (I : Nat → List Value → zM → Prop)
    (hs : ∀ i ls ct, i < N → I i ls ct → (∀ ls' ct', I (i + 1) ls' ct' → RUN X C m Q hd ls' [] (mk D ct')) → RUN X C m Q hd ls [] (mk D ct))
    (he : ∀ ls ct, I N ls ct → RUN X C m Q hd ls [] (mk D ct)) : ∀ k i ls ct, i + k = N → I i ls ct → RUN X C m Q hd ls [] (mk D ct)
  | 0, i, ls, ct, h, hi => by
    have : i = N := by omega
    subst this
    exact he ls ct hi
  | k + 1, i, ls, ct, h, hi => hs i ls ct (by omega) hi fun ls' ct' h' => z_loop I hs he k (i + 1) ls' ct' (by omega) h'
theorem z_loop0 {X : Nat × (Nat → Int32)} {C : Nat → List Value → xHp → Option Value → xHp → Prop} {m : Nat} {Q : Option Value → xHp → Prop} {D : zD} {hd : Nat} (N : Nat) (I : Nat → List Value → zM → Prop) {ls : List Value} {ct : zM} (h0 : I 0 ls ct)
    (hs : ∀ i ls ct, i < N → I i ls ct → (∀ ls' ct', I (i + 1) ls' ct' → RUN X C m Q hd ls' [] (mk D ct')) → RUN X C m Q hd ls [] (mk D ct))
    (he : ∀ ls ct, I N ls ct → RUN X C m Q hd ls [] (mk D ct)) : RUN X C m Q hd ls [] (mk D ct) := z_loop I hs he N 0 ls ct (Nat.zero_add N) h0
theorem zsep {D : zD} {a o : Nat} (ha : zsh D a = (3, 0)) (ho : zsh D o = (3, 0)) (h : a ≠ o) : a + 4 ≤ o ∨ o + 4 ≤ a := by
  have h1 := zsh_at ha
  have h2 := zsh_at ho
  omega
/-- the town at a is now as the town at o was -/
def zTk (ct : zM) (o : Nat) (ct' : zM) (a : Nat) : Prop := (∀ j, j < 36 → ct' (a + 1) j = ct (o + 1) j ∧ ct' (a + 2) j = ct (o + 2) j ∧ ct' (a + 3) j = ct (o + 3) j) ∧ ct' a 3 = ct o 3 ∧ ct' a 4 = ct o 4 ∧ ct' a 5 = ct o 5
/-- nothing but the town at a is changed -/
def zO (a : Nat) (ct ct' : zM) : Prop := ∀ b, ¬ (a ≤ b ∧ b ≤ a + 3) → ct' b = ct b
section
variable {X : Nat × (Nat → Int32)} {D : zD} {ct : zM} {d r c j p a o e : Nat}
theorem e34 (ha : zsh D a = (3, 0)) (ho : zsh D o = (3, 0)) (hao : a ≠ o) (hb : ∀ j, j < 36 → zb (ct (o + 3) j)) : CE X (d + 1) 34 [.ref a, .ref o] D ct (fun v D' ct' => v = none ∧ D = D' ∧ zTk ct o ct' a ∧ zO a ct ct') := by
  have hsep := zsep ha ho hao
  refine CE_of (Nat.le_of_ble_eq_true rfl) ?_
  refine b34_0 ha ho ?_
  refine z_loop0 36 (fun i ls ct1 => ls = [.ref a, .ref o, .int (nI i)] ∧ (∀ j, j < i → ct1 (a + 1) j = ct (o + 1) j ∧ ct1 (a + 2) j = ct (o + 2) j ∧ ct1 (a + 3) j = ct (o + 3) j) ∧ ∀ b, b ≠ a + 1 → b ≠ a + 2 → b ≠ a + 3 → ct1 b = ct b) ⟨rfl, fun j hj => absurd hj (Nat.not_lt_zero _), fun _ _ _ _ => rfl⟩ ?_ ?_
  · rintro i _ ct1 hi ⟨rfl, h1, h2⟩ ih
    refine b34_2 ha ho (fun h => ?_) (fun _ => ?_)
    · rw [zle (by omega) (by omega)] at h; omega
    have zx : zix (nI i) i 36 := zix_nI hi (by decide)
    have q1 := h2 (o + 1) (by omega) (by omega) (by omega)
    have q2 := h2 (o + 2) (by omega) (by omega) (by omega)
    have q3 := h2 (o + 3) (by omega) (by omega) (by omega)
    have hb2 := hb i hi
    refine b34_8 ha ho zx zx zx zx zx zx ?_ ?_
    · rw [u2_n (by omega), u2_n (by omega), q3]; exact hb2
    · refine ih _ _ ⟨by rw [nI_add], fun j hj => ?_, fun b g1 g2 g3 => ?_⟩
      · have k := fun hj => h1 j hj
        simp (disch := omega) only [u2_n, u2_r, q1, q2, q3, upd]
        by_cases hji : j = i
        · subst hji; simp
        · simp only [if_neg hji]; exact h1 j (by omega)
      · rw [u2_n g3, u2_n g2, u2_n g1, h2 b g1 g2 g3]
  · rintro _ ct1 ⟨rfl, h1, h2⟩
    refine b34_2 ha ho (fun _ => ?_) (fun h => absurd ((zle (by omega) (by omega)).2 (Nat.le_refl 36)) h)
    refine b34_50 ha ho (zQ_of ⟨rfl, rfl, ⟨fun j hj => ?_, ?_, ?_, ?_⟩, fun b hb' => ?_⟩)
    · simp (disch := omega) only [u2_n]
      exact h1 j hj
    · have q := h2 o (by omega) (by omega) (by omega)
      simp (disch := omega) only [u2_a, u2_n, q, reduceIte, and_true, and_false, true_and, Nat.reduceEqDiff]
      try simp
    · have q := h2 o (by omega) (by omega) (by omega)
      simp (disch := omega) only [u2_a, u2_n, q, reduceIte, and_true, and_false, true_and, Nat.reduceEqDiff]
      try simp
    · have q := h2 o (by omega) (by omega) (by omega)
      simp (disch := omega) only [u2_a, u2_n, q, reduceIte, and_true, and_false, true_and, Nat.reduceEqDiff]
      try simp
    · rw [u2_n (by omega), u2_n (by omega), u2_n (by omega)]
      exact h2 b (by omega) (by omega) (by omega)
theorem e31 {k old : Int32} (ha : zsh D a = (3, 0)) (hj : j < 36) : EV X (d + 1) 31 [.ref a, .int (nI j), .int k, .int old] (mk D ct) none (mk D (u2 (u2 ct (a + 1) j k) (a + 2) j old)) := by
  refine EV_intro (Nat.le_of_ble_eq_true rfl) ?_
  refine b31_0 ha (fun h => ?_) (fun _ => ?_)
  · rw [zlt (by omega) (by omega)] at h; omega
  refine b31_4 ha (fun _ => ?_) (fun h => absurd ((zlt (by omega) (by omega)).2 hj) h)
  have zx : zix (nI j) j 36 := zix_nI hj (by decide)
  exact b31_11 ha zx zx ⟨rfl, rfl⟩
theorem e42 (hb : ∀ j, j < 36 → zb (ct 17 j)) : CE X (d + 2) 42 [.ref 0] D ct (fun v D' ct' => v = none ∧ D = D' ∧ zTk ct 14 ct' 22 ∧ zO 22 ct ct') := by
  obtain ⟨_, _, ct1, he, rfl, rfl, h1, h2⟩ := e34 (X := X) (D := D) (ct := ct) (d := d) (a := 22) (o := 14) rfl rfl (by decide) hb
  exact CE_of (Nat.le_of_ble_eq_true rfl) (b42_0 he (b42_11 (zQ_of ⟨rfl, rfl, h1, h2⟩)))
/-- a price into, out of the sums -/
theorem e53 {pr : Nat} {s : Int32} (hp : pr < 1000) : CE X (d + 1) 53 [.ref 26, .int (nI pr), .int s] D ct (fun v D' ct' => v = none ∧ D = D' ∧ (∀ b, b ≠ 26 → ct' b = ct b) ∧ ct' 26 3 = ct 26 3 + s * nI (if pr ≤ 3 then pr else 0) ∧ ct' 26 4 = ct 26 4 + s * nI (if pr ≤ 3 then 0 else pr) ∧ ct' 26 5 = ct 26 5 + s * nI (if pr = 0 then 0 else 1)) := by
  refine CE_of (Nat.le_of_ble_eq_true rfl) ?_
  have z0 : ∀ x : Int32, x + s * nI 0 = x := fun x => by
    have : nI 0 = 0 := rfl
    rw [this, Int32.mul_zero, Int32.add_zero]
  have z1 : s * nI 1 = s := by
    have : nI 1 = 1 := rfl
    rw [this, Int32.mul_one]
  refine b53_0 (fun h => b53_4 (zQ_of ?_)) (fun h => ?_)
  · rw [zeq (by omega) (by omega)] at h
    subst h
    exact ⟨rfl, rfl, fun _ _ => rfl, (z0 _).symm, (z0 _).symm, (z0 _).symm⟩
  · rw [zeq (by omega) (by omega)] at h
    refine b53_5 (fun h2 => b53_35 (zQ_of ?_)) (fun h2 => b53_20 (zQ_of ?_))
    · rw [zlt (by omega) (by omega)] at h2
      rw [if_neg (by omega), if_neg (by omega), if_neg h]
      refine ⟨rfl, rfl, fun b hb => by rw [u2_n hb, u2_n hb], ?_, ?_, ?_⟩
      · simp [u2_a, z0]
      · simp [u2_a]
      · simp [u2_a, z1]
    · rw [zlt (by omega) (by omega)] at h2
      rw [if_pos (by omega), if_pos (by omega), if_neg h]
      refine ⟨rfl, rfl, fun b hb => by rw [u2_n hb, u2_n hb], ?_, ?_, ?_⟩
      · simp [u2_a]
      · simp [u2_a, z0]
      · simp [u2_a, z1]
end
