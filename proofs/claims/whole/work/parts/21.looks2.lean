/-! The class's calls that look further: behind, until, by, chance, what was fined. -/
def zfor {α : Type} (f : Nat → α → α) : Nat → Nat → α → α
  | 0, _, s => s
  | k + 1, i, s => zfor f k (i + 1) (f i s)
theorem zfor_step {α : Type} {f : Nat → α → α} {N i : Nat} {s : α} (h : i < N) : zfor f (N - i) i s = zfor f (N - (i + 1)) (i + 1) (f i s) := by
  rw [show N - i = (N - (i + 1)) + 1 by omega]
  rfl
theorem zfor_end {α : Type} {f : Nat → α → α} {N : Nat} {s : α} : zfor f (N - N) N s = s := by rw [Nat.sub_self]; rfl
def f68 (σ : zM) (n w : Int32) : Int32 := if (nI 0 ≤ n ∧ n ≤ nI 20) ∧ (w = nI 0 ∨ w = nI 1) then (if w = nI 0 then nI (sfine σ (sgo n (σ 3))) else if σ 0 2 < nI (sfine σ (sgo n (σ 3))) then nI 0 else nI 1) else (-1)
def fu (P : Nat → Bool) : Nat → Nat → Int32
  | 0, _ => (-4)
  | k + 1, i => if P i = true then nI i else fu P k (i + 1)
theorem fu_succ {P : Nat → Bool} {k i : Nat} : fu P (k + 1) i = if P i = true then nI i else fu P k (i + 1) := rfl
def f70 (σ : zM) : Int32 := fu (fun n => decide (σ 0 2 < nI (sfine σ (sgo (nI n) (σ 3))))) 21 0
def f91 (σ : zM) (w : Int32) : Int32 := if nI 0 ≤ w ∧ w < nI 4 then nI (sfine σ (swd w (σ 3))) else (-1)
def fcd (A : Nat) : Nat → Nat
  | 0 => 1
  | k + 1 => if k = 0 then 1 else if A % (k + 1) = 0 ∧ 10 % (k + 1) = 0 then k + 1 else fcd A k
theorem fcd_gcd : ∀ A, A ≤ 10 → fcd A 10 = Nat.gcd A 10 := by decide
def fdays (σ : zM) : Nat := zfor (fun w A => if σ 0 2 < nI (sfine σ (swd (nI w) (σ 3))) then A else A + (σ 2 w).toNatClampNeg) 4 0 0
def f93 (σ : zM) (p : Int32) : Int32 := if p = nI 0 then nI (fdays σ / Nat.gcd (fdays σ) 10) else if p = nI 1 then nI (10 / Nat.gcd (fdays σ) 10) else (-1)
/-- all that was fined is so, in a town -/
def sso (σ : zM) (s : Nat → Int32) : Bool := decide (∀ i, i < sf σ → nI (sfine σ (swd (σ 5 (2 * i)) s)) = σ 5 (2 * i + 1))
theorem sso_wd {σ : zM} {w : Int32} {s : Nat → Int32} : sso σ (swd w s) = sso σ s := by
  unfold sso
  simp only [swd_swd]
theorem swd_self {s : Nat → Int32} : swd (s 108) s = s := by
  funext j
  unfold swd upd
  by_cases h : j = 108
  · rw [if_pos h, h]
  · rw [if_neg h]
theorem sey_swd {e w : Int32} {s : Nat → Int32} : sey e (swd w s) = swd w (sey e s) := by
  funext j
  unfold swd sey upd
  by_cases h : j = 109
  · subst h; simp
  · rw [if_neg h]
    by_cases h2 : j = 108
    · rw [if_pos h2, if_pos h2]
    · rw [if_neg h2, if_neg h2, if_neg h]
theorem sey_sey {e e' : Int32} {s : Nat → Int32} : sey e (sey e' s) = sey e s := by
  funext j
  unfold sey upd
  by_cases h : j = 109
  · rw [if_pos h, if_pos h]
  · rw [if_neg h, if_neg h, if_neg h]
def ffr (σ : zM) : Nat × Int32 := zfor (fun x p => if sso σ (sey (nI x) (σ 3)) = true then (p.1 + 1, if p.1 = 0 then nI x else p.2) else p) (sr σ * sc σ) 0 (0, (-4))
def f89 (σ : zM) (w : Int32) : Int32 := if w = nI 0 then nI (ffr σ).1 else if w = nI 1 then (ffr σ).2 else (-1)
def fcp (σ : zM) (j : Nat) : Int32 := zfor (fun k b => if sso (u2 σ 1 j (nI k)) (σ 3) = true then b ||| (nI 1 <<< (nI k &&& 31)) else b) 8 0 (nI 0)
def f90 (σ : zM) (x : Int32) : Int32 := if sIn (sr σ * sc σ) x = true then fcp σ x.toNatClampNeg else (-1)
theorem f2_n {w a b : Int32} (h : w < nI 0 ∨ ¬ w ≤ nI 1) : (if w = nI 0 then a else if w = nI 1 then b else (-1)) = (-1) := by
  rw [if_neg, if_neg]
  all_goals (intro z; subst z; revert h; decide)
section
variable {X : Nat × (Nat → Int32)} {D : zD} {ct σ : zM} {d a : Nat}
theorem k68 {n w : Int32} (h : WF σ) (ha : CA σ D ct) : CE X (d + 7) 68 [.ref 0, .int n, .int w] D ct (fun v D' ct' => v = some (.int (f68 σ n w)) ∧ PC σ D ct D' ct') := by
  refine CE_of (Nat.le_of_ble_eq_true rfl) ?_
  have p0 := PC_lk ha (ct' := ct) fun _ _ => rfl
  have bad : ∀ {P : Prop} [Decidable P] {a : Int32}, ¬ P → some (Value.int (-1)) = some (Value.int (if P then a else (-1))) := fun hp => by rw [if_neg hp]
  refine b68_0 (fun h1 => b68_19 (zQ_of ⟨bad (fun z => Int32.not_le.mpr h1 z.1.1), p0⟩)) (fun h1 => ?_)
  refine b68_4 (fun h2 => b68_19 (zQ_of ⟨bad (fun z => Int32.not_le.mpr h2 z.1.2), p0⟩)) (fun h2 => ?_)
  refine b68_10 (fun h3 => b68_19 (zQ_of ⟨bad (fun z => by rcases z.2 with rfl | rfl <;> exact absurd h3 (by decide)), p0⟩)) (fun h3 => ?_)
  refine b68_14 (fun h4 => ?_) (fun h4 => b68_19 (zQ_of ⟨bad (fun z => by rcases z.2 with rfl | rfl <;> exact absurd (by decide) h4), p0⟩))
  obtain ⟨i, hi, rfl⟩ := z_in (by decide) h3 h4
  have hc : (nI 0 ≤ n ∧ n ≤ nI 20) ∧ (nI i = nI 0 ∨ nI i = nI 1) := ⟨⟨Int32.not_lt.mp h1, Int32.not_lt.mp h2⟩, by rcases (show i = 0 ∨ i = 1 by omega) with rfl | rfl; exact Or.inl rfl; exact Or.inr rfl⟩
  obtain ⟨_, _, ct1, he, rfl, rfl, l1⟩ := f69 (X := X) (D := D) (ct := ct) (d := d) (n := n) h ha
  refine b68_21 he ?_
  have hl : ct1 11 2 = σ 0 2 := (ha.1.lk l1).2.2.1
  unfold f68
  rw [if_pos hc]
  refine b68_26 (fun h5 => b68_31 (zQ_of ⟨by rw [if_pos h5], PC_lk ha l1⟩)) (fun h5 => ?_)
  rw [if_neg h5]
  refine b68_35 (fun h9 => b68_50 (e55 (Or.inl rfl)) (b68_54 (zQ_of ⟨?_, PC_lk ha l1⟩))) (fun h9 => b68_46 (e55 (Or.inr rfl)) (b68_54 (zQ_of ⟨?_, PC_lk ha l1⟩)))
  · rw [hl] at h9; rw [if_pos h9]
  · rw [hl] at h9; rw [if_neg h9]
theorem k70 (h : WF σ) (ha : CA σ D ct) : CE X (d + 7) 70 [.ref 0] D ct (fun v D' ct' => v = some (.int (f70 σ)) ∧ PC σ D ct D' ct') := by
  refine CE_of (Nat.le_of_ble_eq_true rfl) ?_
  refine b70_0 ?_
  refine z_loop0 21 (fun i ls ct1 => ls = [.ref 0, .int (nI i)] ∧ zLk ct ct1 ∧ f70 σ = fu (fun n => decide (σ 0 2 < nI (sfine σ (sgo (nI n) (σ 3))))) (21 - i) i) ⟨rfl, fun _ _ => rfl, rfl⟩ ?_ ?_
  · rintro i _ ct1 hi ⟨rfl, h1, h2⟩ ih
    refine b70_2 (fun z => ?_) (fun _ => ?_)
    · rw [zlt (by omega) (by omega)] at z; omega
    obtain ⟨_, _, ct2, he, rfl, rfl, l1⟩ := f69 (X := X) (D := D) (ct := ct1) (d := d) (n := nI i) h (ha.lk h1)
    have l2 := h1.t l1
    have hl : ct2 11 2 = σ 0 2 := (ha.1.lk l2).2.2.1
    rw [show 21 - i = (21 - (i + 1)) + 1 by omega] at h2
    refine b70_8 he (b70_13 (fun h3 => b70_25 (ih _ _ ⟨by rw [nI_add], l2, ?_⟩)) (fun h3 => b70_23 (zQ_of ⟨?_, PC_lk ha l2⟩)))
    · rw [hl] at h3
      rw [h2, fu_succ]
      rw [if_neg (by rw [decide_eq_true_eq]; exact Int32.not_lt.mpr h3)]
    · rw [hl] at h3
      rw [h2, fu_succ]
      rw [if_pos (by rw [decide_eq_true_eq]; exact Int32.not_le.mp h3)]
  · rintro _ ct1 ⟨rfl, h1, h2⟩
    exact b70_2 (fun _ => b70_31 (zQ_of ⟨by rw [h2]; rfl, PC_lk ha h1⟩)) (fun z => absurd (by decide) z)
theorem k91 {w : Int32} (h : WF σ) (ha : CA σ D ct) : CE X (d + 7) 91 [.ref 0, .int w] D ct (fun v D' ct' => v = some (.int (f91 σ w)) ∧ PC σ D ct D' ct') := by
  refine CE_of (Nat.le_of_ble_eq_true rfl) ?_
  have p0 := PC_lk ha (ct' := ct) fun _ _ => rfl
  unfold f91
  refine b91_0 (fun h1 => b91_9 (zQ_of ⟨by rw [if_neg (fun z => Int32.not_le.mpr h1 z.1)], p0⟩)) (fun h1 => ?_)
  refine b91_4 (fun h2 => ?_) (fun h2 => b91_9 (zQ_of ⟨by rw [if_neg (fun z => h2 z.2)], p0⟩))
  obtain ⟨_, _, ct1, he, rfl, rfl, l1⟩ := f92 (X := X) (D := D) (ct := ct) (d := d) (w := w) h ha
  exact b91_11 he (b91_16 (zQ_of ⟨by rw [if_pos ⟨Int32.not_lt.mp h1, h2⟩], PC_lk ha l1⟩))
theorem e94 {A : Nat} {Q : Option Value → xHp → Prop} {C : Nat → List Value → xHp → Option Value → xHp → Prop} (hA : A ≤ 10) : ∀ k, k ≤ 10 → Q (some (.int (nI (fcd A k)))) (mk D ct) → RUN X C 94 Q 2 [.int (nI A), .int (nI 10), .int (nI k)] [] (mk D ct)
  | 0, _, hq => b94_2 (fun _ => b94_27 hq) (fun z => absurd (by decide) z)
  | k + 1, hk, hq => by
    unfold fcd at hq
    refine b94_2 (fun h1 => ?_) (fun h1 => ?_)
    · rw [zle (by omega) (by omega)] at h1
      rw [if_pos (by omega)] at hq
      exact b94_27 hq
    · rw [zle (by omega) (by omega)] at h1
      rw [if_neg (by omega)] at hq
      have n0 : ¬ nI (k + 1) = 0 := nI_ne0 (by omega) (by omega)
      have r1 : nI A - nI A / nI (k + 1) * nI (k + 1) = nI (A % (k + 1)) := pk_rem (by omega) (by omega) (by omega)
      have r2 : nI 10 - nI 10 / nI (k + 1) * nI (k + 1) = nI (10 % (k + 1)) := pk_rem (by omega) (by omega) (by omega)
      have m1 : A % (k + 1) ≤ A := Nat.mod_le _ _
      have m2 : 10 % (k + 1) ≤ 10 := Nat.mod_le _ _
      have next : ¬ (A % (k + 1) = 0 ∧ 10 % (k + 1) = 0) → RUN X C 94 Q 21 [.int (nI A), .int (nI 10), .int (nI (k + 1))] [] (mk D ct) := fun hn => by
        rw [if_neg hn] at hq
        refine b94_21 ?_
        rw [pk_m1]
        exact e94 hA k (by omega) hq
      refine b94_7 n0 (fun h2 => ?_) (fun h2 => next fun z => ?_)
      · rw [r1, zeq (by omega) (by omega)] at h2
        refine b94_13 n0 (fun h3 => ?_) (fun h3 => next fun z => ?_)
        · rw [r2, zeq (by omega) (by omega)] at h3
          rw [if_pos ⟨h2, h3⟩] at hq
          exact b94_19 hq
        · rw [r2, zeq (by omega) (by omega)] at h3
          exact h3 z.2
      · rw [r1, zeq (by omega) (by omega)] at h2
        exact h2 z.1
theorem WF.days {σ : zM} (h : WF σ) : ∃ g : Nat → Nat, (∀ j, j < 4 → σ 2 j = nI (g j)) ∧ g 0 + g 1 + g 2 + g 3 = 10 := h.2.2.2.2.2.2.2.2.1
theorem fdays_le (h : WF σ) : fdays σ ≤ 10 := by
  obtain ⟨g, hg, hs⟩ := h.days
  unfold fdays zfor zfor zfor zfor zfor
  have e : ∀ j, j < 4 → (σ 2 j).toNatClampNeg = g j := fun j hj => by rw [hg j hj, nI_clamp]; rcases (show j = 0 ∨ j = 1 ∨ j = 2 ∨ j = 3 by omega) with rfl | rfl | rfl | rfl <;> omega
  rw [e 0 (by decide), e 1 (by decide), e 2 (by decide), e 3 (by decide)]
  repeat' split
  all_goals omega
theorem k93 {w : Int32} (h : WF σ) (ha : CA σ D ct) : CE X (d + 7) 93 [.ref 0, .int w] D ct (fun v D' ct' => v = some (.int (f93 σ w)) ∧ PC σ D ct D' ct') := by
  refine CE_of (Nat.le_of_ble_eq_true rfl) ?_
  have p0 := PC_lk ha (ct' := ct) fun _ _ => rfl
  refine b93_0 (fun h1 => b93_9 (zQ_of ⟨by unfold f93; rw [f2_n (Or.inl h1)], p0⟩)) (fun h1 => ?_)
  refine b93_4 (fun h2 => ?_) (fun h2 => b93_9 (zQ_of ⟨by unfold f93; rw [f2_n (Or.inr h2)], p0⟩))
  obtain ⟨i, hi, rfl⟩ := z_in (by decide) h1 h2
  obtain ⟨g, hg, hs⟩ := h.days
  have e : ∀ j, j < 4 → (σ 2 j).toNatClampNeg = g j := fun j hj => by rw [hg j hj, nI_clamp]; rcases (show j = 0 ∨ j = 1 ∨ j = 2 ∨ j = 3 by omega) with rfl | rfl | rfl | rfl <;> omega
  refine b93_11 ?_
  refine z_loop0 4 (fun k ls ct1 => ∃ A, ls = [.ref 0, .int (nI i), .int (nI A), .int (nI k)] ∧ zLk ct ct1 ∧ fdays σ = zfor (fun w A => if σ 0 2 < nI (sfine σ (swd (nI w) (σ 3))) then A else A + (σ 2 w).toNatClampNeg) (4 - k) k A) ⟨0, rfl, fun _ _ => rfl, rfl⟩ ?_ ?_
  · rintro k _ ct1 hk ⟨A, rfl, l1, hA⟩ ih
    refine b93_15 (fun z => ?_) (fun _ => ?_)
    · rw [zle (by omega) (by omega)] at z; omega
    obtain ⟨_, _, ct2, he, rfl, rfl, l2⟩ := f92 (X := X) (D := D) (ct := ct1) (d := d) (w := nI k) h (ha.lk l1)
    have l3 := l1.t l2
    have hp := ha.1.lk l3
    rw [zfor_step hk] at hA
    refine b93_20 he (b93_25 (fun h3 => b93_47 (ih _ _ ⟨A, by rw [nI_add], l3, ?_⟩)) (fun h3 => b93_35 (zix_nI hk (by decide)) (ih _ _ ⟨A + g k, ?_, l3, ?_⟩)))
    · rw [hp.2.2.1] at h3
      rw [if_pos h3] at hA; exact hA
    · rw [nI_add, hp.2.2.2.2 k hk, hg k hk, nI_add]
    · rw [hp.2.2.1] at h3
      rw [if_neg h3, e k hk] at hA; exact hA
  · rintro _ ct1 ⟨A, rfl, l1, hA⟩
    rw [zfor_end] at hA
    have hA10 : A ≤ 10 := by rw [← hA]; exact fdays_le h
    have hgc : fcd A 10 = Nat.gcd A 10 := fcd_gcd A hA10
    have hg1 : 1 ≤ Nat.gcd A 10 := Nat.gcd_pos_of_pos_right A (by decide)
    have hg2 : Nat.gcd A 10 ≤ 10 := Nat.gcd_le_right A (by decide)
    refine b93_15 (fun _ => ?_) (fun z => absurd (by decide) z)
    refine b93_53 (D1 := D) (ct1 := ct1) (v1 := nI (Nat.gcd A 10)) (EV_intro (Nat.le_of_ble_eq_true rfl) (b94_0 (e94 hA10 10 (Nat.le_refl _) ⟨by rw [hgc], rfl⟩))) ?_
    refine b93_59 (fun _ => ?_) (fun z => ?_)
    · have n0 : ¬ nI (Nat.gcd A 10) = 0 := nI_ne0 (by omega) (by omega)
      unfold f93
      rw [hA]
      refine b93_68 (fun h5 => b93_72 n0 (zQ_of ⟨?_, PC_lk ha l1⟩)) (fun h5 => b93_76 n0 (zQ_of ⟨?_, PC_lk ha l1⟩))
      · rw [if_pos h5, pk_div (by omega) (by omega) (by omega)]
      · rw [if_neg h5, if_pos, pk_div (by omega) (by omega) (by omega)]
        rw [zeq (by omega) (by omega)] at h5
        rw [show i = 1 by omega]
    · rw [zle (by omega) (by omega)] at z; omega
theorem f88 {s : Nat → Int32} (h : WF σ) (hp : CP σ ct) (hf : CF σ ct) (hm : zTm ct 22 s) (hk : zOk (sr σ * sc σ) s) : CE X (d + 6) 88 [.ref 0] D ct (fun v D' ct' => v = some (.int (if sso σ s = true then nI 1 else nI 0)) ∧ D = D' ∧ zLk ct ct' ∧ ∃ w, zTm ct' 22 (swd w s)) := by
  refine CE_of (Nat.le_of_ble_eq_true rfl) ?_
  have h6 := h.2.2.2.2.2.1
  refine b88_0 ?_
  refine z_loop0 (sf σ) (fun i ls ct1 => ls = [.ref 0, .int (nI i)] ∧ zLk ct ct1 ∧ (∃ w, zTm ct1 22 (swd w s)) ∧ ∀ k, k < i → nI (sfine σ (swd (σ 5 (2 * k)) s)) = σ 5 (2 * k + 1)) ⟨rfl, fun _ _ => rfl, ⟨s 108, by rw [swd_self]; exact hm⟩, fun k hk => absurd hk (Nat.not_lt_zero _)⟩ ?_ ?_
  · rintro i _ ct1 hi ⟨rfl, l1, ⟨w, hw⟩, hs⟩ ih
    have e0 : ct1 0 10 = nI (sf σ) := by rw [l1 0 (by omega), hf.1, ← h6.1]
    refine b88_2 (fun z => ?_) (fun _ => ?_)
    · rw [e0, zle (by omega) (by omega)] at z; omega
    refine b88_10 (fun z => ?_) (fun _ => ?_)
    · rw [zle (by omega) (by omega)] at z; omega
    have e1 : ct1 31 i = σ 5 (2 * i) := by rw [l1 31 (by omega)]; exact (hf.2 i hi).1
    have lw : zLk ct (u2 ct1 22 3 (ct1 31 i)) := fun b hb => by rw [u2_n (by omega)]; exact l1 b hb
    have hm2 := zTm_wd (w := ct1 31 i) hw
    rw [swd_swd] at hm2
    obtain ⟨_, _, ct2, he, rfl, rfl, g1, -⟩ := f51 (X := X) (D := D) (ct := u2 ct1 22 3 (ct1 31 i)) (d := d) h (hp.lk lw) hm2 (swd_ok hk)
    have l2 : zLk ct ct2 := lw.t fun b hb => g1 b (by omega) (by omega)
    have hm3 : zTm ct2 22 (swd (ct1 31 i) s) := hm2.keep fun b g2 g3 => g1 b (by omega) (by omega)
    have e2 : ct2 32 i = σ 5 (2 * i + 1) := by rw [l2 32 (by omega)]; exact (hf.2 i hi).2
    refine b88_16 (zix_nI (by omega) (by decide)) he ?_
    refine b88_36 (zix_nI (by omega) (by decide)) (fun h1 => b88_47 (ih _ _ ⟨by rw [nI_add], l2, ⟨_, hm3⟩, fun k hk2 => ?_⟩)) (fun h1 => b88_45 (zQ_of ⟨?_, rfl, l2, ⟨_, hm3⟩⟩))
    · by_cases hki : k = i
      · subst hki; rw [e2, e1] at h1; exact h1
      · exact hs k (by omega)
    · rw [e2, e1] at h1
      rw [if_neg]
      unfold sso
      rw [decide_eq_true_eq]
      exact fun z => h1 (z i hi)
  · rintro _ ct1 ⟨rfl, l1, hw, hs⟩
    have e0 : ct1 0 10 = nI (sf σ) := by rw [l1 0 (by omega), hf.1, ← h6.1]
    refine b88_2 (fun _ => b88_53 (zQ_of ⟨?_, rfl, l1, hw⟩)) (fun z => absurd (by rw [e0]; exact (zle (by omega) (by omega)).2 (Nat.le_refl _)) z)
    rw [if_pos]
    unfold sso
    rw [decide_eq_true_eq]
    exact hs
theorem CF.lk {σ ct ct' : zM} (h : CF σ ct) (k : zLk ct ct') : CF σ ct' := by
  unfold CF
  rw [k 0 (by omega), k 31 (by omega), k 32 (by omega)]
  exact h
theorem k89 {w : Int32} (h : WF σ) (ha : CA σ D ct) : CE X (d + 7) 89 [.ref 0, .int w] D ct (fun v D' ct' => v = some (.int (f89 σ w)) ∧ PC σ D ct D' ct') := by
  have hk := h.2.2.2.2.2.2.2.2.2.1
  have hN := h.N
  refine CE_of (Nat.le_of_ble_eq_true rfl) ?_
  have p0 := PC_lk ha (ct' := ct) fun _ _ => rfl
  refine b89_0 (fun h1 => b89_9 (zQ_of ⟨by unfold f89; rw [f2_n (Or.inl h1)], p0⟩)) (fun h1 => ?_)
  refine b89_4 (fun h2 => ?_) (fun h2 => b89_9 (zQ_of ⟨by unfold f89; rw [f2_n (Or.inr h2)], p0⟩))
  obtain ⟨i, hi, rfl⟩ := z_in (by decide) h1 h2
  obtain ⟨_, _, ct1, he, rfl, rfl, g1, g2⟩ := f42 (X := X) (D := D) (ct := ct) (d := d + 4) h ha.2.1
  refine b89_11 he (b89_15 ?_)
  refine z_loop0 (sr σ * sc σ) (fun x ls ct2 => ∃ n f, ls = [.ref 0, .int (nI i), .int (nI n), .int f, .int (nI x)] ∧ n ≤ x ∧ zLk ct ct2 ∧ (∃ w e, zTm ct2 22 (swd w (sey e (σ 3)))) ∧ ffr σ = zfor (fun x p => if sso σ (sey (nI x) (σ 3)) = true then (p.1 + 1, if p.1 = 0 then nI x else p.2) else p) (sr σ * sc σ - x) x (n, f)) ⟨0, (-4), rfl, Nat.le_refl _, fun b hb => g2 b (by omega), ⟨σ 3 108, σ 3 109, ?_⟩, rfl⟩ ?_ ?_
  · have e1 : sey (σ 3 109) (σ 3) = σ 3 := by
      funext j
      unfold sey upd
      by_cases hj : j = 109
      · rw [if_pos hj, hj]
      · rw [if_neg hj]
    rw [e1, swd_self]; exact g1
  · rintro x _ ct2 hx ⟨n, f, rfl, hn, l1, ⟨w, e, hm⟩, hff⟩ ih
    rw [zfor_step hx] at hff
    have hp := ha.1.lk l1
    refine b89_23 (e36 rfl (h.V hp)) (b89_32 (fun z => ?_) (fun _ => ?_))
    · rw [zle (by omega) (by omega)] at z; omega
    have hm2 := zTm_ey (w := nI x) hm
    rw [sey_swd, sey_sey] at hm2
    have lw : zLk ct (u2 ct2 22 4 (nI x)) := fun b hb => by rw [u2_n (by omega)]; exact l1 b hb
    obtain ⟨_, _, ct3, he, rfl, rfl, g3, w2, g4⟩ := f88 (X := X) (D := D) (ct := u2 ct2 22 4 (nI x)) (d := d) h (ha.1.lk lw) (ha.2.2.2.2.2.1.lk lw) hm2 (swd_ok (sey_ok hk hx))
    rw [sso_wd] at he
    rw [swd_swd] at g4
    have l3 := lw.t g3
    refine b89_35 he (b89_48 (fun h5 => b89_51 (ih _ _ ⟨n, f, by rw [nI_add], by omega, l3, ⟨w2, _, g4⟩, ?_⟩)) (fun h5 => b89_54 (fun h6 => b89_58 (ih _ _ ⟨n + 1, nI x, by rw [nI_add, nI_add], by omega, l3, ⟨w2, _, g4⟩, ?_⟩)) (fun h6 => b89_61 (ih _ _ ⟨n + 1, f, by rw [nI_add, nI_add], by omega, l3, ⟨w2, _, g4⟩, ?_⟩))))
    · have : ¬ sso σ (sey (nI x) (σ 3)) = true := fun z => by rw [if_pos z] at h5; exact absurd h5 (by decide)
      rw [if_neg this] at hff; exact hff
    · have : sso σ (sey (nI x) (σ 3)) = true := by
        by_cases z : sso σ (sey (nI x) (σ 3)) = true
        · exact z
        · rw [if_neg z] at h5; exact absurd rfl h5
      rw [zeq (by omega) (by omega)] at h6
      rw [if_pos this] at hff
      simp only [h6, if_true] at hff ⊢
      exact hff
    · have : sso σ (sey (nI x) (σ 3)) = true := by
        by_cases z : sso σ (sey (nI x) (σ 3)) = true
        · exact z
        · rw [if_neg z] at h5; exact absurd rfl h5
      rw [zeq (by omega) (by omega)] at h6
      rw [if_pos this] at hff
      simp only [h6, if_false] at hff ⊢
      exact hff
  · rintro _ ct2 ⟨n, f, rfl, hn, l1, -, hff⟩
    rw [zfor_end] at hff
    have hp := ha.1.lk l1
    refine b89_23 (e36 rfl (h.V hp)) (b89_32 (fun _ => ?_) (fun z => absurd ((zle (by omega) (by omega)).2 (Nat.le_refl _)) z))
    unfold f89
    rw [hff]
    refine b89_70 (fun h5 => b89_74 (zQ_of ⟨by rw [if_pos h5], PC_lk ha l1⟩)) (fun h5 => b89_78 (zQ_of ⟨?_, PC_lk ha l1⟩))
    rw [if_neg h5, if_pos]
    rw [zeq (by omega) (by omega)] at h5
    rw [show i = 1 by omega]
end
