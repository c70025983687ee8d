/-! The class reads the whole text, and lays it. -/
theorem ptk_oth {p : (Nat → Int32) × Bool} {c : Nat} {l : List Nat} (h : c ≠ 101 ∧ c ≠ 103 ∧ c ≠ 105 ∧ c ≠ 108 ∧ c ≠ 112 ∧ c ≠ 118 ∧ c ≠ 119) : ptk p c l = none := by
  unfold ptk
  split
  · rw [if_neg (by omega), if_neg (by omega), if_neg (by omega)]
  · rw [if_neg (by omega), if_neg (by omega)]
  · rw [if_neg (by omega)]
  · rfl
theorem ptk_b {p p' : (Nat → Int32) × Bool} {c : Nat} {l : List Nat} (h : c ≠ 118) (hp : p.1 = p'.1) : ptk p c l = ptk p' c l := by
  unfold ptk
  rw [hp]
  split
  · rfl
  · rw [if_neg h, if_neg h]
  · rfl
  · rfl
section
variable {X : Nat × (Nat → Int32)} {D : zD} {ct : zM} {d n a : Nat} {t : Nat → Nat} {p : (Nat → Int32) × Bool}
theorem e27 {l : List Nat} {c : Nat} (h126 : c ≤ 126) (hw : PW p.1) (hc : CS p.1 ct) (hv : CV p.2 ct) (hb : NB ct l) (hl : 1 ≤ l.length ∧ l.length ≤ 4 ∧ ∀ x, x ∈ l → x ≤ 99) : CE X (d + 3) 27 [.ref 1, .int (nI c)] D ct (fun v D' ct' => PT p c l ct v D D' ct') := by
  refine CE_of (Nat.le_of_ble_eq_true rfl) ?_
  refine b27_0 (fun z => ?_) (fun z => ?_)
  · rw [zeq (by omega) (by omega)] at z
    subst z
    obtain ⟨v, D', ct', he, q⟩ := e28 (X := X) (D := D) (d := d + 1) hc hv hb hl
    have q' := q
    obtain ⟨q1, q2, q3⟩ := q
    rcases q3 with ⟨-, rfl⟩ | ⟨_, -, rfl, -⟩
    · exact b27_6 he (b27_10 (zQ_of q') (Or.inl rfl))
    · exact b27_6 he (b27_10 (zQ_of q') (Or.inr rfl))
  rw [zeq (by omega) (by omega)] at z
  have ku : ∀ b, b ≠ 1 → (u2 ct 1 6 (nI 1)) b = ct b := fun b hb => u2_n hb
  have hc' : CS (p.1, false).1 (u2 ct 1 6 (nI 1)) := hc.fn fun b z1 z2 => ku b (by omega)
  have hv' : CV false (u2 ct 1 6 (nI 1)) := by unfold CV; rw [u2_a, if_pos ⟨rfl, rfl⟩]; rfl
  have hb' : NB (u2 ct 1 6 (nI 1)) l := ⟨by rw [u2_a, if_neg (by omega)]; exact hb.1, fun j hj => by rw [ku 10 (by decide)]; exact hb.2 j hj⟩
  have fr1 : FR ct (u2 ct 1 6 (nI 1)) := ⟨fun b z1 z2 => ku b z2, fun j z1 z2 => by rw [u2_a, if_neg (fun z => z2 z.2)]⟩
  have out : ∀ v D' ct', PT (p.1, false) c l (u2 ct 1 6 (nI 1)) v D D' ct' → PT p c l ct v D D' ct' := by
    rintro v D' ct' ⟨q1, q2, q3⟩
    refine ⟨q1, fr1.t q2, ?_⟩
    rw [ptk_b (p := p) (p' := (p.1, false)) z rfl]
    exact q3
  refine b27_11 ?_
  rw [nI_toInt (by omega)]
  by_cases c1 : c = 112
  · subst c1
    refine xsw_in (n := 11) (by decide) rfl ?_
    obtain ⟨v, D', ct', he, q⟩ := e29 (X := X) (D := D) (d := d) (p := (p.1, false)) (Or.inl ⟨rfl, rfl⟩) hw hc' hv' hb' hl
    have q' := out _ _ _ q
    obtain ⟨q1, q2, q3⟩ := q
    rcases q3 with ⟨-, rfl⟩ | ⟨_, -, rfl, -⟩
    · exact b27_108 he (b27_113 (zQ_of q') (Or.inl rfl))
    · exact b27_108 he (b27_113 (zQ_of q') (Or.inr rfl))
  by_cases c2 : c = 105
  · subst c2
    refine xsw_in (n := 4) (by decide) rfl ?_
    obtain ⟨v, D', ct', he, q⟩ := e29 (X := X) (D := D) (d := d) (p := (p.1, false)) (Or.inr ⟨rfl, rfl⟩) hw hc' hv' hb' hl
    have q' := out _ _ _ q
    obtain ⟨q1, q2, q3⟩ := q
    rcases q3 with ⟨-, rfl⟩ | ⟨_, -, rfl, -⟩
    · exact b27_114 he (b27_119 (zQ_of q') (Or.inl rfl))
    · exact b27_114 he (b27_119 (zQ_of q') (Or.inr rfl))
  by_cases c3 : c = 103
  · subst c3
    refine xsw_in (n := 2) (by decide) rfl ?_
    obtain ⟨v, D', ct', he, q⟩ := e32 (X := X) (D := D) (d := d + 1) (p := (p.1, false)) hc' hv' hb' hl
    have q' := out _ _ _ q
    obtain ⟨q1, q2, q3⟩ := q
    rcases q3 with ⟨-, rfl⟩ | ⟨_, -, rfl, -⟩
    · exact b27_120 he (b27_124 (zQ_of q') (Or.inl rfl))
    · exact b27_120 he (b27_124 (zQ_of q') (Or.inr rfl))
  have no : ∀ ct2, FR ct ct2 → ptk p c l = none → zQ (fun v D' ct' => PT p c l ct v D D' ct') (some (.int (nI 0))) (mk D ct2) := fun ct2 f e => zQ_of ⟨rfl, f, Or.inl ⟨e, rfl⟩⟩
  by_cases c4 : c = 101
  · subst c4
    refine xsw_in (n := 0) (by decide) rfl ?_
    have fr2 : FR ct (u2 (u2 ct 1 6 (nI 1)) 6 4 (u2 ct 1 6 (nI 1) 10 0)) := fr1.t ⟨fun b z1 z2 => u2_n (by omega), fun j z1 z2 => by rw [u2_n (by omega)]⟩
    refine b27_125 (fun z2 => ?_) (fun z2 => b27_161 (no _ fr2 (ptk_n1 (Or.inl rfl) fun e => z2 (by rw [hb'.1, e]))))
    rw [hb'.1, zeq (by omega) (by omega)] at z2
    obtain ⟨x, rfl⟩ := len1 z2
    have hx : x ≤ 99 := hl.2.2 x (by simp)
    have e0 : u2 ct 1 6 (nI 1) 10 0 = nI x := hb'.2 0 (by simp)
    rw [e0] at fr2 ⊢
    refine b27_146 (fun z3 => ?_) (fun _ => b27_157 (zQ_of ⟨rfl, fr2, Or.inr ⟨(upd p.1 8 (nI x), false), rfl, rfl, ⟨?_, fun j hj => ?_, fun j hj => ?_, ?_⟩, ?_⟩⟩))
    · rw [u2_n (show (10 : Nat) ≠ 6 by decide), e0, zlt (by omega) (by omega)] at z3
      omega
    · dsimp only
      rw [u2_n (show (3 : Nat) ≠ 6 by decide), pk_un (by omega), pk_un (by omega), pk_un (by omega)]
      exact hc'.1
    · dsimp only
      rw [u2_n (show (4 : Nat) ≠ 6 by decide), pk_un (by omega)]
      exact hc'.2.1 j hj
    · dsimp only
      rw [u2_n (show (5 : Nat) ≠ 6 by decide), pk_un (by omega)]
      exact hc'.2.2.1 j hj
    · dsimp only
      rw [stw_e]
      exact zTm_ey (a := 6) hc'.2.2.2
    · unfold CV
      rw [u2_n (show (1 : Nat) ≠ 6 by decide)]
      exact hv'
  by_cases c5 : c = 119
  · subst c5
    refine xsw_in (n := 18) (by decide) rfl ?_
    have fr2 : FR ct (u2 (u2 ct 1 6 (nI 1)) 6 3 (u2 ct 1 6 (nI 1) 10 0)) := fr1.t ⟨fun b z1 z2 => u2_n (by omega), fun j z1 z2 => by rw [u2_n (by omega)]⟩
    refine b27_163 (fun z2 => ?_) (fun z2 => b27_198 (no _ fr2 (ptk_n1 (Or.inr (Or.inl rfl)) fun e => z2 (by rw [hb'.1, e]))))
    rw [hb'.1, zeq (by omega) (by omega)] at z2
    obtain ⟨x, rfl⟩ := len1 z2
    have hx : x ≤ 99 := hl.2.2 x (by simp)
    have e0 : u2 ct 1 6 (nI 1) 10 0 = nI x := hb'.2 0 (by simp)
    have ept : ptk p 119 [x] = if x < 4 then some (upd p.1 7 (nI x), false) else none := by
      unfold ptk
      dsimp only
      rw [if_neg (show ¬ 119 = 101 by decide), if_neg (show ¬ 119 = 108 by decide)]
      simp only [true_and]
    rw [e0] at fr2 ⊢
    refine b27_184 (fun z3 => b27_198 (no _ fr2 ?_)) (fun z3 => b27_194 (zQ_of ⟨rfl, fr2, Or.inr ⟨(upd p.1 7 (nI x), false), ?_, rfl, ⟨?_, fun j hj => ?_, fun j hj => ?_, ?_⟩, ?_⟩⟩))
    · rw [u2_n (show (10 : Nat) ≠ 6 by decide), e0, zle (by omega) (by omega)] at z3
      rw [ept, if_neg (by omega)]
    · rw [u2_n (show (10 : Nat) ≠ 6 by decide), e0, zle (by omega) (by omega)] at z3
      rw [ept, if_pos (by omega)]
    · dsimp only
      rw [u2_n (show (3 : Nat) ≠ 6 by decide), pk_un (by omega), pk_un (by omega), pk_un (by omega)]
      exact hc'.1
    · dsimp only
      rw [u2_n (show (4 : Nat) ≠ 6 by decide), pk_un (by omega)]
      exact hc'.2.1 j hj
    · dsimp only
      rw [u2_n (show (5 : Nat) ≠ 6 by decide), pk_un (by omega)]
      exact hc'.2.2.1 j hj
    · dsimp only
      rw [stw_w]
      exact zTm_wd (a := 6) hc'.2.2.2
    · unfold CV
      rw [u2_n (show (1 : Nat) ≠ 6 by decide)]
      exact hv'
  by_cases c6 : c = 108
  · subst c6
    refine xsw_in (n := 7) (by decide) rfl ?_
    have fr2 : FR ct (u2 (u2 ct 1 6 (nI 1)) 3 2 (u2 ct 1 6 (nI 1) 10 0)) := fr1.t ⟨fun b z1 z2 => u2_n (by omega), fun j z1 z2 => by rw [u2_n (by omega)]⟩
    refine b27_200 (fun z2 => ?_) (fun z2 => b27_236 (no _ fr2 (ptk_n1 (Or.inr (Or.inr rfl)) fun e => z2 (by rw [hb'.1, e]))))
    rw [hb'.1, zeq (by omega) (by omega)] at z2
    obtain ⟨x, rfl⟩ := len1 z2
    have hx : x ≤ 99 := hl.2.2 x (by simp)
    have e0 : u2 ct 1 6 (nI 1) 10 0 = nI x := hb'.2 0 (by simp)
    rw [e0] at fr2 ⊢
    refine b27_221 (fun z3 => ?_) (fun _ => b27_232 (zQ_of ⟨rfl, fr2, Or.inr ⟨(upd p.1 2 (nI x), false), rfl, rfl, ⟨⟨?_, ?_, ?_⟩, fun j hj => ?_, fun j hj => ?_, ?_⟩, ?_⟩⟩))
    · rw [u2_n (show (10 : Nat) ≠ 3 by decide), e0, zlt (by omega) (by omega)] at z3
      omega
    · dsimp only
      rw [u2_a, if_neg (by omega), pk_un (by omega)]
      exact hc'.1.1
    · dsimp only
      rw [u2_a, if_neg (by omega), pk_un (by omega)]
      exact hc'.1.2.1
    · dsimp only
      rw [u2_a, if_pos ⟨rfl, rfl⟩, pk_us]
    · dsimp only
      rw [u2_n (show (4 : Nat) ≠ 3 by decide), pk_un (by omega)]
      exact hc'.2.1 j hj
    · dsimp only
      rw [u2_n (show (5 : Nat) ≠ 3 by decide), pk_un (by omega)]
      exact hc'.2.2.1 j hj
    · dsimp only
      rw [stw_u (by omega)]
      exact hc'.2.2.2.keep fun b z1 z2 => u2_n (by omega)
    · unfold CV
      rw [u2_n (show (1 : Nat) ≠ 3 by decide)]
      exact hv'
  have fin : RUN X (EV X (d + 2)) 27 (zQ (fun v D' ct' => PT p c l ct v D D' ct')) 238 [.ref 1, .int (nI c)] [] (mk D (u2 ct 1 6 (nI 1))) := b27_238 (no _ fr1 (ptk_oth ⟨c4, c3, c2, c6, c1, z, c5⟩))
  by_cases lo : c < 101
  · exact xsw_out (Or.inl (by omega)) fin
  by_cases hi : 119 < c
  · exact xsw_out (Or.inr (by show (19 : Int) ≤ _; omega)) fin
  rcases (show c = 102 ∨ c = 104 ∨ c = 106 ∨ c = 107 ∨ c = 109 ∨ c = 110 ∨ c = 111 ∨ c = 113 ∨ c = 114 ∨ c = 115 ∨ c = 116 ∨ c = 117 by omega) with rfl | rfl | rfl | rfl | rfl | rfl | rfl | rfl | rfl | rfl | rfl | rfl
  · exact xsw_in (n := 1) (by decide) rfl fin
  · exact xsw_in (n := 3) (by decide) rfl fin
  · exact xsw_in (n := 5) (by decide) rfl fin
  · exact xsw_in (n := 6) (by decide) rfl fin
  · exact xsw_in (n := 8) (by decide) rfl fin
  · exact xsw_in (n := 9) (by decide) rfl fin
  · exact xsw_in (n := 10) (by decide) rfl fin
  · exact xsw_in (n := 12) (by decide) rfl fin
  · exact xsw_in (n := 13) (by decide) rfl fin
  · exact xsw_in (n := 14) (by decide) rfl fin
  · exact xsw_in (n := 15) (by decide) rfl fin
  · exact xsw_in (n := 16) (by decide) rfl fin
theorem e22 : CE X (d + 1) 22 [.ref 3] D ct (fun v D' ct' => v = none ∧ D = D' ∧ (∀ b, ¬ (3 ≤ b ∧ b ≤ 5) → ct' b = ct b) ∧ (ct' 3 0 = nI 4 ∧ ct' 3 1 = nI 5 ∧ ct' 3 2 = nI 10) ∧ (∀ j, j < 36 → ct' 4 j = nI 0) ∧ ∀ j, j < 4 → ct' 5 j = pd0 (3 + j)) := by
  refine CE_of (Nat.le_of_ble_eq_true rfl) ?_
  refine b22_0 rfl ?_
  refine z_loop0 36 (fun i ls ct1 => ls = [.ref 3, .int (nI i)] ∧ (∀ b, ¬ (3 ≤ b ∧ b ≤ 5) → ct1 b = ct b) ∧ (ct1 3 0 = nI 4 ∧ ct1 3 1 = nI 5 ∧ ct1 3 2 = nI 10) ∧ (∀ j, j < i → ct1 4 j = nI 0)) ⟨rfl, fun b hb => by rw [u2_n (by omega), u2_n (by omega), u2_n (by omega)], ⟨?_, ?_, ?_⟩, fun j hj => by omega⟩ ?_ ?_
  · rw [u2_a, if_neg (by omega), u2_a, if_neg (by omega), u2_a, if_pos ⟨rfl, rfl⟩]
  · rw [u2_a, if_neg (by omega), u2_a, if_pos ⟨rfl, rfl⟩]
  · rw [u2_a, if_pos ⟨rfl, rfl⟩]
  · rintro i _ ct1 hi ⟨rfl, h1, h2, h3⟩ ih
    refine b22_18 rfl (fun z => ?_) (fun _ => b22_24 rfl (zix_nI hi (by decide)) (ih _ _ ⟨by rw [nI_add], fun b hb => by rw [u2_n (by omega)]; exact h1 b hb, by rw [u2_n (by omega)]; exact h2, fun j hj => ?_⟩))
    · rw [zle (by omega) (by omega)] at z; omega
    · rw [u2_a]
      by_cases e : j = i
      · rw [if_pos ⟨rfl, e⟩]
      · rw [if_neg (fun z => e z.2)]; exact h3 j (by omega)
  · rintro _ ct1 ⟨rfl, h1, h2, h3⟩
    refine b22_18 rfl (fun _ => b22_37 rfl ?_) (fun z => absurd ((zle (by omega) (by omega)).2 (Nat.le_refl 36)) z)
    refine z_loop0 4 (fun i ls ct2 => ls = [.ref 3, .int (nI i)] ∧ (∀ b, b ≠ 5 → ct2 b = ct1 b) ∧ (∀ j, j < i → ct2 5 j = pd0 (3 + j))) ⟨rfl, fun _ _ => rfl, fun j hj => by omega⟩ ?_ ?_
    · rintro i _ ct2 hi ⟨rfl, k1, k2⟩ ih
      refine b22_39 rfl (fun z => ?_) (fun _ => b22_44 rfl (fun z => ?_) (fun z => ?_))
      · rw [zle (by omega) (by omega)] at z; omega
      · rw [zeq (by omega) (by omega)] at z
        subst z
        refine b22_53 rfl rfl (zix_nI hi (by decide)) (ih _ _ ⟨by rw [nI_add], fun b hb => by rw [u2_n hb]; exact k1 b hb, fun j hj => ?_⟩)
        rcases (show j = 0 by omega) with rfl
        rw [u2_a, if_pos ⟨rfl, rfl⟩]; rfl
      · rw [zeq (by omega) (by omega)] at z
        refine b22_58 rfl rfl (zix_nI hi (by decide)) (ih _ _ ⟨by rw [nI_add], fun b hb => by rw [u2_n hb]; exact k1 b hb, fun j hj => ?_⟩)
        rw [u2_a]
        by_cases e : j = i
        · rw [if_pos ⟨rfl, e⟩]
          unfold pd0
          rw [if_neg (by omega), if_neg (by omega), if_neg (by omega)]
        · rw [if_neg (fun z => e z.2)]; exact k2 j (by omega)
    · rintro _ ct2 ⟨rfl, k1, k2⟩
      refine b22_39 rfl (fun _ => b22_66 rfl (zQ_of ⟨rfl, rfl, fun b hb => by rw [k1 b (by omega)]; exact h1 b hb, by rw [k1 3 (by decide)]; exact h2, fun j hj => by rw [k1 4 (by decide)]; exact h3 j hj, k2⟩)) (fun z => absurd ((zle (by omega) (by omega)).2 (Nat.le_refl 4)) z)
theorem e23 (ha : zsh D a = (3, 0)) : CE X (d + 1) 23 [.ref a] D ct (fun v D' ct' => v = none ∧ D = D' ∧ zTm ct' a (fun _ => nI 0) ∧ zO a ct ct') := by
  refine CE_of (Nat.le_of_ble_eq_true rfl) ?_
  refine b23_0 ha ?_
  refine z_loop0 36 (fun i ls ct1 => ls = [.ref a, .int (nI i)] ∧ zO a ct ct1 ∧ ∀ j, j < i → ct1 (a + 1) j = nI 0 ∧ ct1 (a + 2) j = nI 0 ∧ ct1 (a + 3) j = nI 0) ⟨rfl, fun _ _ => rfl, fun j hj => by omega⟩ ?_ ?_
  · rintro i _ ct1 hi ⟨rfl, h1, h3⟩ ih
    have zx : zix (nI i) i 36 := zix_nI hi (by decide)
    refine b23_2 ha (fun z => ?_) (fun _ => b23_8 ha zx zx zx (ih _ _ ⟨by rw [nI_add], fun b hb => by rw [u2_n (by omega), u2_n (by omega), u2_n (by omega)]; exact h1 b hb, fun j hj => ?_⟩))
    · rw [zle (by omega) (by omega)] at z; omega
    · by_cases e : j = i
      · subst e
        refine ⟨?_, ?_, ?_⟩
        · rw [u2_n (by omega), u2_n (by omega), u2_a, if_pos ⟨rfl, rfl⟩]
        · rw [u2_n (by omega), u2_a, if_pos ⟨rfl, rfl⟩]
        · rw [u2_a, if_pos ⟨rfl, rfl⟩]
      · rw [u2_n (show a + 1 ≠ a + 3 by omega), u2_n (show a + 1 ≠ a + 2 by omega), u2_a, if_neg (fun z => e z.2), u2_n (show a + 2 ≠ a + 3 by omega), u2_a, if_neg (fun z => e z.2), u2_n (show a + 2 ≠ a + 1 by omega), u2_a, if_neg (fun z => e z.2), u2_n (show a + 3 ≠ a + 2 by omega), u2_n (show a + 3 ≠ a + 1 by omega)]
        exact h3 j (by omega)
  · rintro _ ct1 ⟨rfl, h1, h3⟩
    refine b23_2 ha (fun _ => b23_35 ha (zQ_of ⟨rfl, rfl, ⟨fun j hj => ?_, ?_, ?_, ?_⟩, fun b hb => by rw [u2_n (by omega), u2_n (by omega), u2_n (by omega)]; exact h1 b hb⟩)) (fun z => absurd ((zle (by omega) (by omega)).2 (Nat.le_refl 36)) z)
    · rw [u2_n (by omega), u2_n (by omega), u2_n (by omega), u2_n (by omega), u2_n (by omega), u2_n (by omega), u2_n (by omega), u2_n (by omega), u2_n (by omega)]
      exact h3 j hj
    · rw [u2_a, if_neg (by omega), u2_a, if_neg (by omega), u2_a, if_pos ⟨rfl, rfl⟩]
    · rw [u2_a, if_neg (by omega), u2_a, if_pos ⟨rfl, rfl⟩]
    · rw [u2_a, if_pos ⟨rfl, rfl⟩]
def fa (o : Option Nat) : Int32 := match o with
  | some x => nI x
  | none => (-4)
theorem r21 {Q : Option Value → xHp → Prop} (h : TX n t ct) : ∀ k i a p ct1, i + k = 200 → a ≤ 300 → PW p.1 → CS p.1 ct1 → CV p.2 ct1 → FR ct ct1 → (∀ ct2, FR ct ct2 → ((prd n t k p a).1 = none → CS (prd n t k p a).2 ct2) → Q (some (.int (fa (prd n t k p a).1))) (mk D ct2)) → ∀ l3, xnl (some l3) → RUN X (EV X (d + 3)) 21 Q 23 [.ref 1, .int (nI a), .int (nI i), l3] [] (mk D ct1)
  | 0, i, a, p, ct1, hi, ha, hw, hc, hv, hf, hq, l3, h3 => by
    refine b21_23 (fun _ => b21_74 (hq ct1 hf fun _ => hc)) (fun z => ?_)
    rw [zle (by omega) (by omega)] at z; omega
  | k + 1, i, a, p, ct1, hi, ha, hw, hc, hv, hf, hq, l3, h3 => by
    have ht1 := h.fr hf
    have hn := h.2.1
    refine b21_23 (fun z => ?_) (fun _ => b21_30 (fun z => ?_) (fun z => ?_))
    · rw [zle (by omega) (by omega)] at z; omega
    · rw [ht1.1, zle (by omega) (by omega)] at z
      have e : prd n t (k + 1) p a = (none, p.1) := by unfold prd; rw [if_neg (by omega)]
      rw [e] at hq
      exact b21_74 (hq ct1 hf fun _ => hc)
    rw [ht1.1, zle (by omega) (by omega)] at z
    have el : plt n t a = t a := by unfold plt; rw [if_pos (by omega)]
    obtain ⟨v, _, ct2, he, rfl, hfn, q⟩ := e24 (X := X) (D := D) (d := d + 1) (a := a + 1) ht1 (by omega)
    have hf2 : FR ct ct2 := hf.t hfn.fr
    rcases q with ⟨q1, rfl⟩ | ⟨l, e, q1, rfl, q2⟩
    · have e : prd n t (k + 1) p a = (some a, p.1) := by
        unfold prd pit
        rw [if_pos (by omega), q1]
      rw [e] at hq
      refine b21_38 (by rw [nI_add]; exact he) ?_
      exact b21_45 (fun _ => b21_64 (hq ct2 hf2 fun z => by cases z)) (fun z => absurd rfl z)
    · have hl := pns_le _ _ _ _ q1
      refine b21_38 (by rw [nI_add]; exact he) ?_
      refine b21_45 (fun z => absurd z.symm (nI_ne4 (j := e) (by omega))) (fun _ => ?_)
      refine b21_52 (e25 (h.fr hf2) (by omega)) ?_
      have hc2 : CS p.1 ct2 := hc.fn fun b z1 z2 => hfn.1 b (by omega) (by omega)
      have hv2 : CV p.2 ct2 := by unfold CV; rw [hfn.2 6 (by decide)]; exact hv
      obtain ⟨v, _, ct3, he2, rfl, hf3, q⟩ := e27 (X := X) (D := D) (d := d) (c := plt n t a) (plt_le ht1) hw hc2 hv2 q2 ⟨hl.2.2.1, hl.2.2.2.1, hl.2.2.2.2⟩
      have hf4 : FR ct ct3 := hf2.t hf3
      rw [el] at q
      rcases q with ⟨q3, rfl⟩ | ⟨p2, q3, rfl, q4, q5⟩
      · have e : prd n t (k + 1) p a = (some a, p.1) := by
          unfold prd pit
          rw [if_pos (by omega), q1]
          dsimp only
          rw [q3]
        rw [e] at hq
        refine b21_58 he2 ?_
        exact b21_61 (fun _ => b21_64 (hq ct3 hf4 fun z => by cases z)) (fun z => absurd rfl z)
      · have e : prd n t (k + 1) p a = prd n t k p2 e := by
          rw [prd, pit, if_pos (by omega), q1]
          dsimp only
          rw [q3]
        rw [e] at hq
        refine b21_58 he2 ?_
        refine b21_61 (fun z => absurd z (by decide)) (fun _ => b21_66 ?_)
        rw [nI_add]
        exact r21 h k (i + 1) _ p2 ct3 (by omega) (by omega) (ptk_w hw hl.2.2.2.2 q3) q4 q5 hf4 hq _ trivial
theorem e21 (h : TX n t ct) : CE X (d + 4) 21 [.ref 1] D ct (fun v D' ct' => D = D' ∧ FR ct ct' ∧ v = some (.int (fa (prd n t 200 (pd0, true) 0).1)) ∧ ((prd n t 200 (pd0, true) 0).1 = none → CS (prd n t 200 (pd0, true) 0).2 ct')) := by
  refine CE_of (Nat.le_of_ble_eq_true rfl) ?_
  obtain ⟨_, _, ct1, he, rfl, rfl, h1, h2, h3, h4⟩ := e22 (X := X) (D := D) (ct := ct) (d := d + 2)
  refine b21_0 he ?_
  obtain ⟨_, _, ct2, he2, rfl, rfl, h5, h6⟩ := e23 (X := X) (D := D) (ct := ct1) (d := d + 2) (a := 6) rfl
  refine b21_7 he2 (b21_14 ?_)
  have fr : FR ct (u2 ct2 1 6 (nI 0)) := ⟨fun b z1 z2 => by rw [u2_n z2, h6 b (by omega)]; exact h1 b (by omega), fun j z1 z2 => by rw [u2_a, if_neg (fun z => z2 z.2), h6 1 (by omega), h1 1 (by omega)]⟩
  refine r21 h 200 0 0 (pd0, true) _ rfl (by decide) pd0_w ⟨?_, fun j hj => ?_, fun j hj => ?_, ?_⟩ ?_ fr (fun ct3 g1 g2 => zQ_of ⟨rfl, g1, rfl, g2⟩) _ trivial
  · rw [u2_n (show (3 : Nat) ≠ 1 by decide), h6 3 (by omega)]
    exact h2
  · rw [u2_n (show (4 : Nat) ≠ 1 by decide), h6 4 (by omega), h3 j hj]
    dsimp only; unfold pd0
    rw [if_neg (by omega), if_neg (by omega), if_neg (by omega)]
  · rw [u2_n (show (5 : Nat) ≠ 1 by decide), h6 5 (by omega)]
    exact h4 j hj
  · have : stw pd0 = fun _ => nI 0 := by
      funext j
      unfold stw
      by_cases z : j < 36
      · rw [if_pos z]; unfold pd0; rw [if_neg (by omega), if_neg (by omega), if_neg (by omega)]
      · rw [if_neg z]
        split
        · rfl
        · split <;> rfl
    dsimp only
    rw [this]
    exact h5.keep fun b z1 z2 => u2_n (by omega)
  · unfold CV
    rw [u2_a, if_pos ⟨rfl, rfl⟩]; rfl
end
