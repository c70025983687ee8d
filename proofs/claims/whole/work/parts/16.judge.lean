/-! The class: what the judge sees, and what a cell costs. -/
theorem xsw_in {d p n : Nat} {ts : List Nat} {k : Int} {f : Nat → Prop} (hk : k = (n : Int)) (ht : ts[n]? = some p) (hf : f p) : xsw (d :: ts) k f := by
  unfold xsw
  dsimp only
  rw [hk, if_neg (by omega), Int.toNat_natCast, ht]
  exact hf
theorem xsw_out {d : Nat} {ts : List Nat} {k : Int} {f : Nat → Prop} (hk : k < 0 ∨ (ts.length : Int) ≤ k) (hf : f d) : xsw (d :: ts) k f := by
  unfold xsw
  dsimp only
  by_cases h : k < 0
  · rw [if_pos h]; exact hf
  · rw [if_neg h, List.getElem?_eq_none (by omega)]; exact hf
theorem xsw_w (w : Int32) : (w.toInt - 1 < 0 ∨ (3 : Int) ≤ w.toInt - 1) ∨ w = nI 1 ∨ w = nI 2 ∨ w = nI 3 := by
  rcases pk_ix w (n := 4) (by decide) with h | h | ⟨j, hj, rfl⟩
  · left; left
    rw [Int32.lt_iff_toInt_lt] at h
    have : (0 : Int32).toInt = 0 := by decide
    omega
  · left; right
    rw [Int32.le_iff_toInt_le] at h
    have : (nI 4).toInt = 4 := by decide
    omega
  · rcases (show j = 0 ∨ j = 1 ∨ j = 2 ∨ j = 3 by omega) with rfl | rfl | rfl | rfl
    · left; left; decide
    · exact Or.inr (Or.inl rfl)
    · exact Or.inr (Or.inr (Or.inl rfl))
    · exact Or.inr (Or.inr (Or.inr rfl))
section
variable {X : Nat × (Nat → Int32)} {D : zD} {ct : zM} {d r c j p : Nat}
/-- the view of a painting -/
def zV (ct : zM) (p r c : Nat) : Prop := ct p 0 = nI r ∧ ct p 1 = nI c ∧ (2 ≤ r ∧ r ≤ 6) ∧ (2 ≤ c ∧ c ≤ 6)
theorem zV.n (h : zV ct p r c) : r * c ≤ 36 := Nat.mul_le_mul h.2.2.1.2 h.2.2.2.2
theorem zV.n1 (h : zV ct p r c) : 4 ≤ r * c := Nat.mul_le_mul h.2.2.1.1 h.2.2.2.1
theorem e30y (hp : zsh D p = (2, 0)) (hv : zV ct p r c) (hj : j < r * c) : EV X (d + 1) 30 [.ref p, .int (nI j)] (mk D ct) (some (.int (nI 1))) (mk D ct) := by
  have hn := hv.n
  refine EV_intro (Nat.le_of_ble_eq_true rfl) ?_
  refine b30_0 hp (fun h => ?_) (fun _ => ?_)
  · rw [zlt (by omega) (by omega)] at h; omega
  refine b30_4 hp (fun h => ?_) (fun _ => ?_)
  · rw [hv.1, hv.2.1, pk_mul, zle (by omega) (by omega)] at h; omega
  refine b30_17 hp (fun h => ?_) (fun _ => ?_)
  · rw [zle (by omega) (by omega)] at h; omega
  exact b30_23 hp ⟨rfl, rfl⟩
theorem e30n {x : Int32} (hp : zsh D p = (2, 0)) (hv : zV ct p r c) (hj : ¬ ∃ j, j < r * c ∧ x = nI j) : EV X (d + 1) 30 [.ref p, .int x] (mk D ct) (some (.int (nI 0))) (mk D ct) := by
  have hn := hv.n
  refine EV_intro (Nat.le_of_ble_eq_true rfl) ?_
  refine b30_0 hp (fun _ => b30_27 hp ⟨rfl, rfl⟩) (fun h0 => ?_)
  refine b30_4 hp (fun _ => b30_27 hp ⟨rfl, rfl⟩) (fun h1 => ?_)
  rw [hv.1, hv.2.1, pk_mul] at h1
  rcases pk_ix x (n := r * c) (by omega) with h | h | h
  · exact absurd h h0
  · exact absurd h h1
  · exact absurd h hj
theorem nI_ne4 {j : Nat} (hj : j < 1000) : ¬ (-4 : Int32) = nI j := by
  intro h
  have h2 := congrArg Int32.toInt h
  rw [nI_toInt (by omega)] at h2
  have : (-4 : Int32).toInt = -4 := by decide
  omega
theorem e36 (hp : zsh D p = (2, 0)) (hv : zV ct p r c) : EV X (d + 1) 36 [.ref p] (mk D ct) (some (.int (nI (r * c)))) (mk D ct) :=
  EV_intro (Nat.le_of_ble_eq_true rfl) (b36_0 hp ⟨by rw [hv.1, hv.2.1, pk_mul], rfl⟩)
def zwd (c x : Nat) (w : Int32) : Int32 := if w = nI 0 then nI x else if w = nI 1 then nI (x + c) else if w = nI 2 then (if 0 < x % c then nI (x - 1) else (-4)) else if w = nI 3 then (if x % c < c - 1 then nI (x + 1) else (-4)) else nI x
theorem e44 {w : Int32} (hp : zsh D p = (2, 0)) (hv : zV ct p r c) (hj : j < r * c) : EV X (d + 1) 44 [.ref p, .int (nI j), .int w] (mk D ct) (some (.int (zwd c j w))) (mk D ct) := by
  obtain ⟨h1, h2, h3, h4⟩ := hv
  have hn : r * c ≤ 36 := Nat.mul_le_mul h3.2 h4.2
  have hm : j % c < c := Nat.mod_lt _ (by omega)
  have hrem : nI j - nI j / nI c * nI c = nI (j % c) := pk_rem (by omega) (by omega) (by omega)
  have hc0 : ¬ nI c = 0 := nI_ne0 (by omega) (by omega)
  refine EV_intro (Nat.le_of_ble_eq_true rfl) ?_
  refine b44_0 hp (fun _ => b44_10 hp ?_) (fun h => absurd ?_ h)
  · unfold zwd
    by_cases h0 : w = nI 0
    · rw [if_pos h0]
      subst h0
      exact xsw_out (Or.inl (by decide)) (b44_85 hp ⟨rfl, rfl⟩)
    rw [if_neg h0]
    by_cases h1' : w = nI 1
    · rw [if_pos h1']
      subst h1'
      exact xsw_in (n := 0) (by decide) rfl (b44_36 hp ⟨by rw [h2, nI_add], rfl⟩)
    rw [if_neg h1']
    by_cases h2' : w = nI 2
    · rw [if_pos h2']
      subst h2'
      refine xsw_in (n := 1) (by decide) rfl (b44_43 hp (by rw [h2]; exact hc0) (fun h5 => b44_58 hp ⟨?_, rfl⟩) (fun h5 => b44_52 hp ⟨?_, rfl⟩))
      · rw [h2, hrem, zle (by omega) (by omega)] at h5
        rw [if_neg (by omega)]
      · rw [h2, hrem, zle (by omega) (by omega)] at h5
        have := zleft (c := c) (x := j) (by omega)
        rw [if_pos (by omega), pk_sub this]
    rw [if_neg h2']
    by_cases h3' : w = nI 3
    · rw [if_pos h3']
      subst h3'
      refine xsw_in (n := 2) (by decide) rfl (b44_61 hp (by rw [h2]; exact hc0) (fun h5 => b44_82 hp ⟨?_, rfl⟩) (fun h5 => b44_76 hp ⟨?_, rfl⟩))
      · rw [h2, hrem, pk_sub (by omega), zle (by omega) (by omega)] at h5
        rw [if_neg (by omega)]
      · rw [h2, hrem, pk_sub (by omega), zle (by omega) (by omega)] at h5
        rw [if_pos (by omega), nI_add]
    rw [if_neg h3']
    refine xsw_out ?_ (b44_85 hp ⟨rfl, rfl⟩)
    rcases xsw_w w with q | q
    · exact q
    · exfalso
      rcases q with q | q | q
      · exact h1' q
      · exact h2' q
      · exact h3' q
  · rw [h2, zle (by omega) (by omega)]; omega
/-- where the wind comes from is a cell with smoke, or not -/
theorem zwd_smoke {is : Nat → Int32} {w : Int32} (hj : j < r * c) (hn : r * c ≤ 36) (hc : 2 ≤ c ∧ c ≤ 6) : (∃ i, i < r * c ∧ zwd c j w = nI i ∧ (zsmoke r c is w j = true ↔ is i = nI 4)) ∨ ((¬ ∃ i, i < r * c ∧ zwd c j w = nI i) ∧ ¬ zsmoke r c is w j = true) := by
  have hm : j % c < c := Nat.mod_lt _ (by omega)
  unfold zwd zsmoke
  by_cases h0 : w = nI 0
  · left; exact ⟨j, hj, by rw [if_pos h0], by rw [if_pos h0]; simp⟩
  rw [if_neg h0, if_neg h0]
  by_cases h1 : w = nI 1
  · rw [if_pos h1, if_pos h1]
    by_cases h2 : j + c < r * c
    · left; exact ⟨j + c, h2, rfl, by simp [h2]⟩
    · right
      refine ⟨fun ⟨i, h3, h4⟩ => ?_, by simp [h2]⟩
      rw [zeq (by omega) (by omega)] at h4
      omega
  rw [if_neg h1, if_neg h1]
  by_cases h2 : w = nI 2
  · rw [if_pos h2, if_pos h2]
    by_cases h3 : 0 < j % c
    · left
      have := zleft h3
      exact ⟨j - 1, by omega, by rw [if_pos h3], by simp [h3]⟩
    · right
      rw [if_neg h3]
      exact ⟨fun ⟨i, h4, h5⟩ => nI_ne4 (by omega) h5, by simp [h3]⟩
  rw [if_neg h2, if_neg h2]
  by_cases h9 : w = nI 3
  case neg => left; exact ⟨j, hj, by rw [if_neg h9], by rw [if_neg h9]; simp⟩
  rw [if_pos h9, if_pos h9]
  by_cases h3 : j % c < c - 1
  · left; exact ⟨j + 1, zright hj h3, by rw [if_pos h3], by simp [h3]⟩
  · right
    rw [if_neg h3]
    exact ⟨fun ⟨i, h4, h5⟩ => nI_ne4 (by omega) h5, by simp [h3]⟩
theorem r43_105 {Q : Option Value → xHp → Prop} {x2 x3 : Int32} {l4 : Value} (hv : zV ct 11 r c) (hj : j < r * c) (hq : Q (some (.int (if zsmoke r c (ct 23) (ct 22 3) j = true then nI 4 else nI 0))) (mk D ct)) : RUN X (EV X (d + 1)) 43 Q 105 [.ref 26, .int (nI j), .int x2, .int x3, l4] [] (mk D ct) := by
  have hn := hv.n
  refine b43_105 (e44 rfl hv hj) ?_
  rcases zwd_smoke (is := ct 23) (w := ct 22 3) hj hn hv.2.2.2 with ⟨i, h1, h2, h3⟩ | ⟨h1, h2⟩
  · rw [h2]
    refine b43_120 (e30y rfl hv h1) ?_
    refine b43_131 (fun h => absurd h (by decide)) (fun _ => ?_)
    refine b43_134 (zix_nI (by omega) (by decide)) (fun h => b43_148 ?_) (fun h => b43_152 ?_)
    · rw [if_pos (h3.2 h)] at hq; exact hq
    · rw [if_neg (fun z => h (h3.1 z))] at hq; exact hq
  · refine b43_120 (e30n rfl hv h1) ?_
    refine b43_131 (fun _ => b43_152 ?_) (fun h => absurd rfl h)
    rw [if_neg h2] at hq; exact hq
theorem r43_56 {Q : Option Value → xHp → Prop} {x2 : Int32} {l3 l4 : Value} (hv : zV ct 11 r c) (hj : j < r * c) (hq : Q (some (.int (if j + c < r * c ∧ ct 23 (j + c) = nI 5 ∧ nI 3 ≤ ct 24 (j + c) then nI 5 else if zsmoke r c (ct 23) (ct 22 3) j = true then nI 4 else nI 0))) (mk D ct)) : RUN X (EV X (d + 1)) 43 Q 56 [.ref 26, .int (nI j), .int x2, l3, l4] [] (mk D ct) := by
  have hn := hv.n
  have hc6 := hv.2.2.2.2
  have e : nI j + ct 11 1 = nI (j + c) := by rw [hv.2.1, nI_add]
  by_cases h1 : j + c < r * c
  · refine b43_56 (by rw [e]; exact e30y rfl hv h1) ?_
    rw [e]
    refine b43_74 (fun h => absurd h (by decide)) (fun _ => ?_)
    have zx : zix (nI (j + c)) (j + c) 36 := zix_nI (by omega) (by decide)
    refine b43_77 zx (fun h2 => ?_) (fun h2 => r43_105 hv hj ?_)
    · refine b43_90 zx (fun h3 => r43_105 hv hj ?_) (fun h3 => b43_103 ?_)
      · rw [if_neg (fun z => Int32.not_le.mpr h3 z.2.2)] at hq; exact hq
      · rw [if_pos ⟨h1, h2, Int32.not_lt.mp h3⟩] at hq; exact hq
    · rw [if_neg (fun z => h2 z.2.1)] at hq; exact hq
  · refine b43_56 (by rw [e]; exact e30n rfl hv (fun ⟨i, h3, h4⟩ => by rw [zeq (by omega) (by omega)] at h4; omega)) ?_
    refine b43_74 (fun _ => r43_105 hv hj ?_) (fun h => absurd rfl h)
    rw [if_neg (fun z => h1 z.1)] at hq; exact hq
theorem e43 (hv : zV ct 11 r c) (hj : j < r * c) : EV X (d + 2) 43 [.ref 26, .int (nI j)] (mk D ct) (some (.int (zsee r c (ct 12) (ct 23) (ct 24) (ct 25) (ct 22 3) j))) (mk D ct) := by
  have hn := hv.n
  refine EV_intro (Nat.le_of_ble_eq_true rfl) ?_
  refine b43_0 (e30y rfl hv hj) ?_
  refine b43_8 (fun h => absurd h (by decide)) (fun _ => ?_)
  have zx : zix (nI j) j 36 := zix_nI (by omega) (by decide)
  unfold zsee
  refine b43_13 zx (fun h1 => ?_) (fun h1 => b43_25 zx ⟨by rw [if_neg h1], rfl⟩)
  rw [if_pos h1]
  refine b43_35 zx (fun h2 => r43_56 hv hj ⟨by rw [if_pos (Or.inl h2)], rfl⟩) (fun h2 => ?_)
  refine b43_49 (fun h3 => r43_56 hv hj ⟨by rw [if_pos (Or.inr h3)], rfl⟩) (fun h3 => b43_54 ⟨?_, rfl⟩)
  rw [if_neg (fun z => z.elim h2 h3)]
theorem e46 {k : Int32} (hk : zk k) : EV X (d + 1) 46 [.int k] (mk D ct) (some (.int (nI (zz k)))) (mk D ct) := by
  obtain ⟨n, hn, rfl⟩ := hk
  refine EV_intro (Nat.le_of_ble_eq_true rfl) ?_
  refine b46_0 (fun h => ?_) (fun _ => ?_)
  · rw [zlt (by omega) (by omega)] at h; omega
  refine b46_4 (fun h => ?_) (fun _ => ?_)
  · rw [zle (by omega) (by omega)] at h; omega
  exact b46_12 (zix_nI hn (by decide)) ⟨by rw [zz_xsz n hn], rfl⟩
theorem pk_abs {a b : Nat} (ha : a < 1000000) (hb : b < 1000000) : (if 0 ≤ nI a - nI b then nI a - nI b else 0 - (nI a - nI b)) = nI ((a - b) + (b - a)) := by
  by_cases h : b ≤ a
  · rw [pk_sub h, if_pos (nI_pos' (by omega)), show a - b + (b - a) = a - b by omega]
  · have h1 : nI a - nI b < 0 := pk_sneg (by omega) (by omega)
    rw [if_neg (Int32.not_le.mpr h1), show a - b + (b - a) = b - a by omega, ← pk_sub (by omega)]
    rw [Int32.zero_sub, Int32.neg_sub]
theorem e48 {e : Nat} (hp : zsh D p = (2, 0)) (hv : zV ct p r c) (hj : j < 36) (he : e < 36) : EV X (d + 1) 48 [.ref p, .int (nI j), .int (nI e)] (mk D ct) (some (.int (nI (zdist c j e)))) (mk D ct) := by
  obtain ⟨h1, h2, h3, h4⟩ := hv
  have hc0 : ¬ nI c = 0 := nI_ne0 (by omega) (by omega)
  have a1 : j / c ≤ j := Nat.div_le_self _ _
  have a2 : e / c ≤ e := Nat.div_le_self _ _
  have a3 : j % c ≤ j := Nat.mod_le _ _
  have a4 : e % c ≤ e := Nat.mod_le _ _
  refine EV_intro (Nat.le_of_ble_eq_true rfl) ?_
  refine b48_0 hp (fun _ => ?_) (fun h => ?_)
  · refine b48_10 hp (by rw [h2]; exact hc0) (by rw [h2]; exact hc0) (by rw [h2]; exact hc0) (by rw [h2]; exact hc0) ⟨?_, rfl⟩
    rw [h2, pk_rem (by omega) (by omega) (by omega), pk_rem (by omega) (by omega) (by omega), pk_div (by omega) (by omega) (by omega), pk_div (by omega) (by omega) (by omega), pk_abs (by omega) (by omega), pk_abs (by omega) (by omega), nI_add]
    rfl
  · rw [h2, zle (by omega) (by omega)] at h; omega
/-- the town that the judge looks at: where its eye is -/
theorem e45 {e : Nat} (hv : zV ct 11 r c) (hj : j < r * c) (he : ct 22 4 = nI e ∧ e < 36) (hs : zk (ct 12 j)) (hi : zk (ct 23 j)) : EV X (d + 3) 45 [.ref 26, .int (nI j)] (mk D ct) (some (.int (nI (zP r c (ct 12) (ct 23) (ct 24) (ct 25) (ct 22 3) e j)))) (mk D ct) := by
  have hn := hv.n
  refine EV_intro (Nat.le_of_ble_eq_true rfl) ?_
  refine b45_0 (e30y rfl hv hj) ?_
  refine b45_8 (fun h => absurd h (by decide)) (fun _ => ?_)
  have zx : zix (nI j) j 36 := zix_nI (by omega) (by decide)
  refine b45_13 zx (e43 hv hj) ?_
  unfold zP zcost
  refine b45_28 (fun h => b45_34 ⟨by rw [if_pos h], rfl⟩) (fun h => ?_)
  rw [if_neg h]
  have hk : zk (zsee r c (ct 12) (ct 23) (ct 24) (ct 25) (ct 22 3) j) := zsee_k hs hi
  refine b45_36 (e46 hk) ?_
  refine b45_40 (e46 hs) ?_
  refine b45_44 (by rw [he.1]; exact e48 rfl hv (by omega) he.2) ?_
  refine b45_68 ⟨?_, rfl⟩
  have q1 := zz_le (zsee r c (ct 12) (ct 23) (ct 24) (ct 25) (ct 22 3) j)
  have q2 := zz_le (ct 12 j)
  have q3 : zdist c j e ≤ 200 := by
    have a1 : j / c ≤ j := Nat.div_le_self _ _
    have a2 : e / c ≤ e := Nat.div_le_self _ _
    have a3 : j % c ≤ j := Nat.mod_le _ _
    have a4 : e % c ≤ e := Nat.mod_le _ _
    have key : ∀ A B E F : Nat, A ≤ 36 → B ≤ 36 → E ≤ 36 → F ≤ 36 → ((A - B) + (B - A)) + ((E - F) + (F - E)) ≤ 200 := by intro A B E F; omega
    exact key _ _ _ _ (by omega) (by omega) (by omega) (by omega)
  have e1 : (if nI (zz (zsee r c (ct 12) (ct 23) (ct 24) (ct 25) (ct 22 3) j)) < nI (zz (ct 12 j)) then nI (zz (ct 12 j)) else nI (zz (zsee r c (ct 12) (ct 23) (ct 24) (ct 25) (ct 22 3) j))) = nI (if zz (zsee r c (ct 12) (ct 23) (ct 24) (ct 25) (ct 22 3) j) < zz (ct 12 j) then zz (ct 12 j) else zz (zsee r c (ct 12) (ct 23) (ct 24) (ct 25) (ct 22 3) j)) := by
    by_cases hh : zz (zsee r c (ct 12) (ct 23) (ct 24) (ct 25) (ct 22 3) j) < zz (ct 12 j)
    · rw [if_pos hh, if_pos ((zlt (by omega) (by omega)).2 hh)]
    · rw [if_neg hh, if_neg (fun z => hh ((zlt (by omega) (by omega)).1 z))]
  have e2 : (if nI 1 < nI 5 - nI (zdist c j e) then nI 5 - nI (zdist c j e) else nI 1) = nI (znear c j e) := by
    unfold znear
    by_cases hh : zdist c j e < 4
    · rw [pk_sub (by omega), if_pos hh, if_pos ((zlt (by omega) (by omega)).2 (by omega))]
    · rw [if_neg hh, if_neg]
      by_cases h5 : zdist c j e ≤ 5
      · rw [pk_sub h5, zlt (by omega) (by omega)]; omega
      · intro z
        have z2 : nI 5 - nI (zdist c j e) < 0 := pk_sneg (by omega) (by omega)
        rw [Int32.lt_iff_toInt_lt] at z z2
        have a : (nI 1).toInt = 1 := by decide
        have b : (0 : Int32).toInt = 0 := by decide
        omega
  rw [e1, e2, pk_mul]
end
