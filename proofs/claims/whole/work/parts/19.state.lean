/-! The town as both sides mean it. Rows of a state: 0 numbers (rows, columns, L, undos, kept, fined, letters), 1 what should be, 2 days, 3 what is now, 4 the text, 5 what was fined, 10.. the past, 20.. what is kept. -/
def sr (σ : zM) : Nat := (σ 0 0).toNatClampNeg
def sc (σ : zM) : Nat := (σ 0 1).toNatClampNeg
def su (σ : zM) : Nat := (σ 0 3).toNatClampNeg
def sk (σ : zM) : Nat := (σ 0 4).toNatClampNeg
def sf (σ : zM) : Nat := (σ 0 5).toNatClampNeg
def sn (σ : zM) : Nat := (σ 0 6).toNatClampNeg
/-- one town (is 0.., age 36.., canvas 72.., wind 108, eye 109, years 110) in a view of N cells -/
def zOk (N : Nat) (s : Nat → Int32) : Prop := (∀ j, j < 36 → zk (s j) ∧ zb (s (72 + j))) ∧ ∃ e, e < N ∧ s 109 = nI e
/-- the winds that the state holds are winds -/
def WW (σ : zM) : Prop := zwi (σ 3 108) ∧ (∀ i, i < su σ → zwi (σ (10 + i) 108)) ∧ (∀ i, i < sk σ → zwi (σ (20 + i) 108)) ∧ ∀ i, i < sf σ → zwi (σ 5 (2 * i))
def WF (σ : zM) : Prop :=
  (σ 0 0 = nI (sr σ) ∧ 2 ≤ sr σ ∧ sr σ ≤ 6) ∧ (σ 0 1 = nI (sc σ) ∧ 2 ≤ sc σ ∧ sc σ ≤ 6) ∧ (∃ l, l ≤ 99 ∧ σ 0 2 = nI l) ∧ (σ 0 3 = nI (su σ) ∧ su σ ≤ 8) ∧ (σ 0 4 = nI (sk σ) ∧ sk σ ≤ 2) ∧ (σ 0 5 = nI (sf σ) ∧ sf σ ≤ 6) ∧ (σ 0 6 = nI (sn σ) ∧ sn σ ≤ 200) ∧
  (∀ j, j < 36 → zk (σ 1 j)) ∧ (∃ g : Nat → Nat, (∀ j, j < 4 → σ 2 j = nI (g j)) ∧ g 0 + g 1 + g 2 + g 3 = 10) ∧ zOk (sr σ * sc σ) (σ 3) ∧ (∀ i, i < su σ → zOk (sr σ * sc σ) (σ (10 + i))) ∧ (∀ i, i < sk σ → zOk (sr σ * sc σ) (σ (20 + i))) ∧ (∀ j, j < sn σ → ∃ q, 32 ≤ q ∧ q ≤ 126 ∧ σ 4 j = nI q) ∧ WW σ
theorem WF.ww {σ : zM} (h : WF σ) : WW σ := h.2.2.2.2.2.2.2.2.2.2.2.2.2
theorem WF.lt {σ : zM} (h : WF σ) : ∀ j, j < sn σ → ∃ q, 32 ≤ q ∧ q ≤ 126 ∧ σ 4 j = nI q := h.2.2.2.2.2.2.2.2.2.2.2.2.1
/-- the class's town at a is s -/
def zTm (ct : zM) (a : Nat) (s : Nat → Int32) : Prop := (∀ j, j < 36 → ct (a + 1) j = s j ∧ ct (a + 2) j = s (36 + j) ∧ ct (a + 3) j = s (72 + j)) ∧ ct a 3 = s 108 ∧ ct a 4 = s 109 ∧ ct a 5 = s 110
/-- the class's painting is as the state says -/
def CP (σ ct : zM) : Prop := ct 11 0 = σ 0 0 ∧ ct 11 1 = σ 0 1 ∧ ct 11 2 = σ 0 2 ∧ (∀ j, j < 36 → ct 12 j = σ 1 j) ∧ ∀ j, j < 4 → ct 13 j = σ 2 j
/-- one of the class's two pasts: at q, with its places f, holds the n towns h -/
def CR (ct : zM) (q : Nat) (f : Nat → Option Nat) (n : Nat) (h : Nat → Nat → Int32) : Prop := ct q 2 = nI n ∧ ∃ t, t < 8 ∧ ct q 1 = nI t ∧ ∀ i, i < n → ∃ a, f ((t + 7 - i) % 8) = some a ∧ zTm ct a (h i)
def CDv (D : zD) : Prop := (∀ i a, D.2.1 i = some a → 45 ≤ a ∧ zsh D a = (3, 0)) ∧ (∀ i a, D.2.2 i = some a → 45 ≤ a ∧ zsh D a = (3, 0)) ∧ (∀ i i' a, D.2.1 i = some a → D.2.1 i' = some a → i = i') ∧ (∀ i i' a, D.2.2 i = some a → D.2.2 i' = some a → i = i') ∧ ∀ i i' a, D.2.1 i = some a → D.2.2 i' = some a → False
def CF (σ ct : zM) : Prop := ct 0 10 = σ 0 5 ∧ ∀ i, i < sf σ → ct 31 i = σ 5 (2 * i) ∧ ct 32 i = σ 5 (2 * i + 1)
def CX (σ ct : zM) : Prop := ct 1 1 = σ 0 6 ∧ ∀ j, j < sn σ → ct 2 j = σ 4 j
/-- the class stands for the state -/
def CA (σ : zM) (D : zD) (ct : zM) : Prop := CP σ ct ∧ zTm ct 14 (σ 3) ∧ CR ct 18 D.2.1 (su σ) (fun i => σ (10 + i)) ∧ CR ct 20 D.2.2 (sk σ) (fun i => σ (20 + i)) ∧ CDv D ∧ CF σ ct ∧ CX σ ct
/-- the reference stands for the state -/
def MA (σ ct : zM) : Prop := (ct 34 0 = σ 0 0 ∧ ct 34 1 = σ 0 1 ∧ ct 34 2 = σ 0 2 ∧ (∀ j, j < 36 → ct 34 (9 + j) = σ 1 j) ∧ ∀ j, j < 4 → ct 34 (3 + j) = σ 2 j) ∧ (∀ j, j < 111 → ct 36 j = σ 3 j) ∧
  (ct 33 5 = σ 0 3 ∧ ∀ i, i < su σ → ∀ j, j < 111 → ct 38 (111 * (su σ - 1 - i) + j) = σ (10 + i) j) ∧ (ct 33 7 = σ 0 4 ∧ ∀ i, i < sk σ → ∀ j, j < 111 → ct 39 (111 * (sk σ - 1 - i) + j) = σ (20 + i) j) ∧ (ct 33 9 = σ 0 6 ∧ ∀ j, j < sn σ → ct 40 j = σ 4 j) ∧ ct 33 11 = σ 0 5 ∧ ∀ j, j < 2 * sf σ → ct 41 j = σ 5 j
theorem WF.V {σ ct : zM} (h : WF σ) (hp : CP σ ct) : zV ct 11 (sr σ) (sc σ) := ⟨hp.1.trans h.1.1, hp.2.1.trans h.2.1.1, h.1.2, h.2.1.2⟩
theorem WF.N {σ : zM} (h : WF σ) : sr σ * sc σ ≤ 36 := Nat.mul_le_mul h.1.2.2 h.2.1.2.2
theorem WF.N1 {σ : zM} (h : WF σ) : 4 ≤ sr σ * sc σ := Nat.mul_le_mul h.1.2.1 h.2.1.2.1
theorem zTm.of {ct ct' : zM} {a o : Nat} {s : Nat → Int32} (h : zTm ct o s) (k : zTk ct o ct' a) : zTm ct' a s :=
  ⟨fun j hj => ⟨(k.1 j hj).1.trans (h.1 j hj).1, (k.1 j hj).2.1.trans (h.1 j hj).2.1, (k.1 j hj).2.2.trans (h.1 j hj).2.2⟩, k.2.1.trans h.2.1, k.2.2.1.trans h.2.2.1, k.2.2.2.trans h.2.2.2⟩
theorem zTm.keep {ct ct' : zM} {a : Nat} {s : Nat → Int32} (h : zTm ct a s) (k : ∀ b, a ≤ b → b ≤ a + 3 → ct' b = ct b) : zTm ct' a s := by
  unfold zTm
  rw [k a (by omega) (by omega), k (a + 1) (by omega) (by omega), k (a + 2) (by omega) (by omega), k (a + 3) (by omega) (by omega)]
  exact h
theorem zTm.b {ct : zM} {a N : Nat} {s : Nat → Int32} (h : zTm ct a s) (k : zOk N s) : ∀ j, j < 36 → zb (ct (a + 3) j) := fun j hj => by rw [(h.1 j hj).2.2]; exact (k.1 j hj).2
/-- rows of the class that hold its state -/
def cRow (b : Nat) : Prop := b = 2 ∨ (11 ≤ b ∧ b ≤ 21) ∨ b = 31 ∨ b = 32 ∨ 45 ≤ b
theorem CR.keep {ct ct' : zM} {D : zD} {q n : Nat} {f : Nat → Option Nat} {h : Nat → Nat → Int32} (hr : CR ct q f n h) (hd : ∀ i a, f i = some a → 45 ≤ a) (k1 : ct' q = ct q) (k2 : ∀ b, 45 ≤ b → ct' b = ct b) : CR ct' q f n h := by
  obtain ⟨h1, t, ht, h2, h3⟩ := hr
  refine ⟨by rw [k1]; exact h1, t, ht, by rw [k1]; exact h2, fun i hi => ?_⟩
  obtain ⟨a, ha, hm⟩ := h3 i hi
  have := hd _ _ ha
  exact ⟨a, ha, hm.keep fun b g1 g2 => k2 b (by omega)⟩
theorem CA.keep {σ : zM} {D : zD} {ct ct' : zM} (h : CA σ D ct) (k : ∀ b, cRow b → ct' b = ct b) (k0 : ct' 0 10 = ct 0 10) (k1 : ct' 1 1 = ct 1 1) : CA σ D ct' := by
  obtain ⟨a1, a2, a3, a4, a5, a6, a7⟩ := h
  refine ⟨?_, a2.keep fun b g1 g2 => k b (by unfold cRow; omega), a3.keep (D := D) (fun i a ha => (a5.1 i a ha).1) (k 18 (by unfold cRow; omega)) (fun b hb => k b (by unfold cRow; omega)), a4.keep (D := D) (fun i a ha => (a5.2.1 i a ha).1) (k 20 (by unfold cRow; omega)) (fun b hb => k b (by unfold cRow; omega)), a5, ?_, ?_⟩
  · unfold CP
    rw [k 11 (by unfold cRow; omega), k 12 (by unfold cRow; omega), k 13 (by unfold cRow; omega)]
    exact a1
  · unfold CF
    rw [k0, k 31 (by unfold cRow; omega), k 32 (by unfold cRow; omega)]
    exact a6
  · unfold CX
    rw [k1, k 2 (by unfold cRow; omega)]
    exact a7
/-- the rows of the reference -/
def mRow (b : Nat) : Prop := 33 ≤ b ∧ b ≤ 44
theorem MA.keep {σ ct ct' : zM} (h : MA σ ct) (k : ∀ b, mRow b → ct' b = ct b) : MA σ ct' := by
  unfold MA at *
  rw [k 33 ⟨by decide, by decide⟩, k 34 ⟨by decide, by decide⟩, k 36 ⟨by decide, by decide⟩, k 38 ⟨by decide, by decide⟩, k 39 ⟨by decide, by decide⟩, k 40 ⟨by decide, by decide⟩, k 41 ⟨by decide, by decide⟩]
  exact h
/-- the prices in a town -/
def sp (σ : zM) (s : Nat → Int32) : Nat → Nat := fun j => zP (sr σ) (sc σ) (σ 1) s (fun i => s (36 + i)) (fun i => s (72 + i)) (s 108) (s 109).toNatClampNeg j
def sfine (σ : zM) (s : Nat → Int32) : Nat := zfine (sp σ s) (sr σ * sc σ)
theorem sp_le {σ : zM} {s : Nat → Int32} {j : Nat} : sp σ s j ≤ 20 := zP_le _ _ _ _ _ _ _ _ _
theorem sfine_le {σ : zM} (h : WF σ) {s : Nat → Int32} : sfine σ s ≤ 1440 := by
  have h1 := zfine_le (g := sp σ s) (n := sr σ * sc σ) fun x _ => sp_le
  have h2 := h.N
  unfold sfine
  omega
theorem zOk.eye {N : Nat} {s : Nat → Int32} (h : zOk N s) (hN : N ≤ 36) : s 109 = nI (s 109).toNatClampNeg ∧ (s 109).toNatClampNeg < N := by
  obtain ⟨-, e, he, h2⟩ := h
  rw [h2, nI_clamp (by omega)]
  exact ⟨rfl, he⟩
/-- the judge before a town s -/
theorem zTr_of {σ ct : zM} {s : Nat → Int32} (h : WF σ) (hp : CP σ ct) (hm : zTm ct 22 s) (hk : zOk (sr σ * sc σ) s) : zTr ct (sr σ) (sc σ) (s 109).toNatClampNeg ∧ ∀ j, j < sr σ * sc σ → zft ct (sr σ) (sc σ) (s 109).toNatClampNeg j = sp σ s j := by
  have hN := h.N
  obtain ⟨e1, e2⟩ := hk.eye hN
  refine ⟨⟨h.V hp, ⟨hm.2.2.1.trans e1, by omega⟩, fun j hj => ?_, fun j hj => ?_⟩, fun j hj => ?_⟩
  · rw [hp.2.2.2.1 j (by omega)]; exact h.2.2.2.2.2.2.2.1 j (by omega)
  · rw [(hm.1 j (by omega)).1]; exact (hk.1 j (by omega)).1
  · unfold zft sp
    rw [hm.2.1]
    exact zP_congr hj (fun i hi => hp.2.2.2.1 i (by omega)) (fun i hi => (hm.1 i (by omega)).1) (fun i hi _ => by rw [(hm.1 i (by omega)).2.1]) (fun i hi => (hm.1 i (by omega)).2.2)
section
variable {X : Nat × (Nat → Int32)} {D : zD} {ct σ : zM} {d : Nat}
/-- the judge sums up the town s -/
theorem f51 {s : Nat → Int32} (h : WF σ) (hp : CP σ ct) (hm : zTm ct 22 s) (hk : zOk (sr σ * sc σ) s) : CE X (d + 5) 51 [.ref 26] D ct (fun v D' ct' => v = some (.int (nI (sfine σ s))) ∧ D = D' ∧ (∀ b, b ≠ 26 → b ≠ 27 → ct' b = ct b) ∧ zJ ct' (sp σ s) (sr σ * sc σ)) := by
  obtain ⟨h1, h2⟩ := zTr_of h hp hm hk
  refine (e51 h1).mono fun v D' ct' q => ?_
  obtain ⟨q1, q2, q3, q4⟩ := q
  exact ⟨by rw [q1, zfine_congr h2]; rfl, q2, q3, q4.congr h2⟩
/-- the town itself is what the judge looks at -/
theorem f42 (h : WF σ) (hm : zTm ct 14 (σ 3)) : CE X (d + 2) 42 [.ref 0] D ct (fun v D' ct' => v = none ∧ D = D' ∧ zTm ct' 22 (σ 3) ∧ ∀ b, ¬ (22 ≤ b ∧ b ≤ 25) → ct' b = ct b) := by
  refine (e42 (hm.b h.2.2.2.2.2.2.2.2.2.1)).mono fun v D' ct' q => ?_
  obtain ⟨q1, q2, q3, q4⟩ := q
  exact ⟨q1, q2, hm.of q3, q4⟩
end
