/-! The reference: least, canvases. -/
/-- what the reference counts of a set -/
def mc (σ : zM) (cv : Bool) : List Nat → Nat := if cv = true then List.length else kw (kwt σ cv)
def RM (σ : zM) (cv : Bool) (ct : zM) (r : Option (List Nat)) : Prop := match r with
  | none => ct 33 18 = nI 1000000
  | some s => ct 33 18 = nI (mc σ cv s) ∧ ct 33 17 = nI s.length ∧ ∀ i, i < s.length → ct 43 i = nI (s.getD i 0)
def MS (ct0 ct : zM) : Prop := (∀ b, b ≠ 33 → b ≠ 37 → b ≠ 43 → b ≠ 44 → ct b = ct0 b) ∧ ∀ j, j ≠ 17 → j ≠ 18 → ct 33 j = ct0 33 j
/-- the sets that came ahead -/
def BB (n m : Nat) (v : List Nat) : Prop := v.length < n ∨ (v.length = n ∧ dn v < m)
theorem MS.ma {σ ct0 ct : zM} (h : MS ct0 ct) (ha : MA σ ct0) : MA σ ct := by
  unfold MA at *
  rw [h.1 34 (by decide) (by decide) (by decide) (by decide), h.1 36 (by decide) (by decide) (by decide) (by decide), h.1 38 (by decide) (by decide) (by decide) (by decide), h.1 39 (by decide) (by decide) (by decide) (by decide), h.1 40 (by decide) (by decide) (by decide) (by decide), h.1 41 (by decide) (by decide) (by decide) (by decide), h.2 5 (by decide) (by decide), h.2 7 (by decide) (by decide), h.2 9 (by decide) (by decide), h.2 11 (by decide) (by decide)]
  exact ha
theorem MS.of {ct0 ct ct' : zM} (h : MS ct0 ct) (k : ∀ b, b ≠ 37 → b ≠ 43 → b ≠ 44 → ct' b = ct b) : MS ct0 ct' :=
  ⟨fun b h1 h2 h3 h4 => (k b h2 h3 h4).trans (h.1 b h1 h2 h3 h4), fun j h1 h2 => by rw [k 33 (by decide) (by decide) (by decide)]; exact h.2 j h1 h2⟩
theorem RM.k {σ ct ct' : zM} {cv : Bool} {r : Option (List Nat)} (h : RM σ cv ct r) (k1 : ct' 33 = ct 33) (k2 : ct' 43 = ct 43) : RM σ cv ct' r := by
  unfold RM at *
  rw [k1, k2]
  exact h
theorem zokl_el {N : Nat} {el : Nat → Prop} {l : List Nat} : zokl N el l ↔ (zokl N (fun _ => True) l ∧ ∀ k, k < l.length → el (l.getD k 0)) := by
  rcases l with _ | ⟨a, _ | ⟨b, _ | ⟨c, _ | ⟨e, _⟩⟩⟩⟩
  · exact ⟨fun _ => ⟨trivial, fun k hk => absurd hk (Nat.not_lt_zero _)⟩, fun _ => trivial⟩
  · refine ⟨fun h => ⟨⟨h.1, trivial⟩, fun k hk => ?_⟩, fun h => ⟨h.1.1, h.2 0 (Nat.le_of_ble_eq_true rfl)⟩⟩
    have hk : k < 1 := hk
    obtain rfl : k = 0 := by omega
    exact h.2
  · refine ⟨fun h => ⟨⟨h.1, trivial, trivial⟩, fun k hk => ?_⟩, fun h => ⟨h.1.1, h.2 0 (Nat.le_of_ble_eq_true rfl), h.2 1 (Nat.le_of_ble_eq_true rfl)⟩⟩
    have hk : k < 2 := hk
    rcases (show k = 0 ∨ k = 1 by omega) with rfl | rfl
    · exact h.2.1
    · exact h.2.2
  · refine ⟨fun h => ⟨⟨h.1, trivial, trivial, trivial⟩, fun k hk => ?_⟩, fun h => ⟨h.1.1, h.2 0 (Nat.le_of_ble_eq_true rfl), h.2 1 (Nat.le_of_ble_eq_true rfl), h.2 2 (Nat.le_of_ble_eq_true rfl)⟩⟩
    have hk : k < 3 := hk
    rcases (show k = 0 ∨ k = 1 ∨ k = 2 by omega) with rfl | rfl | rfl
    · exact h.2.1
    · exact h.2.2.1
    · exact h.2.2.2
  · exact ⟨fun h => absurd h id, fun h => absurd h.1 id⟩
/-- what the first i of a set count -/
def mcs (σ : zM) (cv : Bool) (l : List Nat) (i : Nat) : Nat := zsum (fun k => if cv = true then 1 else zz (σ 1 (l.getD k 0))) i
theorem mcs_all {σ : zM} {cv : Bool} {l : List Nat} (h : l.length ≤ 3) : mcs σ cv l l.length = mc σ cv l := by
  cases cv <;> rcases l with _ | ⟨a, _ | ⟨b, _ | ⟨c, _ | ⟨e, _⟩⟩⟩⟩
  · rfl
  · exact Nat.zero_add _
  · exact congrArg (· + zz (σ 1 b)) (Nat.zero_add _)
  · exact congrArg (· + zz (σ 1 b) + zz (σ 1 c)) (Nat.zero_add _)
  · simp at h <;> omega
  · rfl
  · rfl
  · rfl
  · rfl
  · simp at h <;> omega
theorem mc_le {σ : zM} {cv : Bool} {l : List Nat} (h : l.length ≤ 3) : mc σ cv l ≤ 12 := by
  cases cv
  · exact kw_le (fun _ => kwt_le) l
  · show l.length ≤ 12; omega
theorem mcs_le {σ : zM} {cv : Bool} {l : List Nat} {i : Nat} : mcs σ cv l i ≤ 4 * i := zsum_le i fun x _ => by
  split
  · omega
  · exact zz_le _
section
variable {N : Nat} {el : Nat → Prop} {w : Nat → Nat} {ps P : List Nat → Prop} {r : Option (List Nat)} {l : List Nat}
theorem BE.no (h : BE N el w ps P r) (hn : ¬ (zokl N el l ∧ ps l)) : BE N el w ps (fun v => P v ∨ v = l) r :=
  h.grow (fun v _ q => Or.inl q) fun v hv q => q.elim Or.inl fun e => by subst e; exact Or.inr fun z => hn ⟨hv, z⟩
end
theorem be_mc {σ : zM} {N : Nat} {el : Nat → Prop} {cv : Bool} {ps : List Nat → Prop} {r : Option (List Nat)} {l : List Nat} (h : BE N el (kwt σ cv) ps (BB l.length (dn l)) r) (hl : zokl N el l) (hp : ps l) : (∀ s, r = some s → mc σ cv l < mc σ cv s) → BE N el (kwt σ cv) ps (fun v => BB l.length (dn l) v ∨ v = l) (some l) := by
  intro hb
  refine ⟨hl, Or.inr rfl, hp, fun v hv q hs => ?_⟩
  rcases q with q | rfl
  · rcases r with _ | s
    · exact absurd hs (h v hv q)
    · have h1 := hb s rfl
      have h2 := h.2.1
      have h3 := h.2.2.2 v hv q hs
      unfold kle at *
      unfold BB at h2
      cases cv
      · have h1 : kw (kwt σ false) l < kw (kwt σ false) s := h1
        omega
      · have h1 : l.length < s.length := h1
        omega
  · unfold kle; omega
theorem be_mn {σ : zM} {N : Nat} {el : Nat → Prop} {cv : Bool} {ps : List Nat → Prop} {s l : List Nat} (h : BE N el (kwt σ cv) ps (BB l.length (dn l)) (some s)) (hb : ¬ mc σ cv l < mc σ cv s) : BE N el (kwt σ cv) ps (fun v => BB l.length (dn l) v ∨ v = l) (some s) := by
  refine ⟨h.1, Or.inl h.2.1, h.2.2.1, fun v hv q hs => ?_⟩
  rcases q with q | rfl
  · exact h.2.2.2 v hv q hs
  · have h2 := h.2.1
    unfold kle
    unfold BB at h2
    cases cv
    · have hb : ¬ kw (kwt σ false) v < kw (kwt σ false) s := hb
      omega
    · rw [kwt_t, kwt_t]
      omega
theorem take_getD {l : List Nat} {i : Nat} (h : i < l.length) : l.take (i + 1) = l.take i ++ [l.getD i 0] := by
  rw [List.take_add_one, List.getD_eq_getElem?_getD, List.getElem?_eq_getElem h]
  rfl
section
variable {X : Nat × (Nat → Int32)} {D : zD} {ct ct0 σ : zM} {d : Nat} {cv : Bool} {l : List Nat} {r : Option (List Nat)}
theorem mT_sap {x : Nat} {s : Nat → Int32} (hx : x < 36) (hm : mT ct 37 s) : mT (if cv = true then u2 ct 37 (72 + x) (nI 1) else u2 (u2 ct 37 x (σ 1 x)) 37 (36 + x) (nI 0)) 37 (sap σ cv x s) := by
  cases cv
  · exact mT_pl hm hx
  · intro j hj
    show u2 ct 37 (72 + x) (nI 1) 37 j = upd s (72 + x) (nI 1) j
    rw [u2_r]
    by_cases e : j = 72 + x
    · subst e; rw [pk_us, pk_us]
    · rw [pk_un e, pk_un e]; exact hm j hj
/-- what is promised of a try -/
def TQ (σ : zM) (cv : Bool) (D : zD) (ct0 ct : zM) (l : List Nat) : Option Value → zD → zM → Prop := fun v D' ct' => v = none ∧ zDm D = D' ∧ MS ct0 ct' ∧ ct' 44 = ct 44 ∧ ∃ r', RM σ cv ct' r' ∧ BE (sr σ * sc σ) (eli σ cv) (kwt σ cv) (pas σ cv) (fun v => BB l.length (dn l) v ∨ v = l) r'
theorem e154 (h : WF σ) (ha : MA σ ct0) (hz : zokl (sr σ * sc σ) (fun _ => True) l) (hset : ∀ i, i < l.length → ct 44 i = nI (l.getD i 0)) (hS : MS ct0 ct) (hR : RM σ cv ct r) (hB : BE (sr σ * sc σ) (eli σ cv) (kwt σ cv) (pas σ cv) (BB l.length (dn l)) r) : CE X (d + 7) 154 [.ref 33, .int (nI l.length), .int (bcv cv)] (zDm D) ct (TQ σ cv D ct0 ct l) := by
  have hN := h.N
  have h3 := zokl_len hz
  have hlt : ∀ i, i < l.length → l.getD i 0 < sr σ * sc σ := fun i hi => by
    have : l.getD i 0 ∈ l := by
      rw [List.getD_eq_getElem?_getD, List.getElem?_eq_getElem hi]
      exact List.getElem_mem hi
    exact (zokl_lt hz _ this).1
  have ma := hS.ma ha
  refine CE_of (Nat.le_of_ble_eq_true rfl) (b154_0 ?_)
  refine z_loop0 l.length (fun i ls ct1 => ct1 = ct ∧ (∃ l5 l6, ls = [.ref 33, .int (nI l.length), .int (bcv cv), .int (nI (mcs σ cv l i)), .int (nI i), l5, l6]) ∧ ∀ k, k < i → eli σ cv (l.getD k 0)) ⟨rfl, ⟨_, _, rfl⟩, fun k hk => absurd hk (Nat.not_lt_zero _)⟩ ?_ ?_
  · rintro i _ ct1 hi ⟨rfl, ⟨l5, l6, rfl⟩, g1⟩ ih
    have hx := hlt i hi
    have v44 := hset i hi
    refine b154_5 (fun z => ?_) (fun _ => ?_)
    · rw [zle (by omega) (by omega)] at z; omega
    generalize hxe : l.getD i 0 = x at hx v44
    have h36 : ∀ k, k < 111 → ct1 36 k = σ 3 k := ma.mt
    have v34 : ct1 34 (9 + x) = σ 1 x := ma.mp.2.2.2.1 x (by omega)
    have stop : ¬ eli σ cv x → ∀ {l3 l4 l5 l6 : Int32}, RUN X (EV X (d + 6)) 154 (zQ (TQ σ cv D ct0 ct1 l)) 79 [.ref 33, .int (nI l.length), .int (bcv cv), .int l3, .int l4, .int l5, .int l6] [] (mk (zDm D) ct1) := fun hne {l3 l4 l5 l6} =>
      b154_79 (zQ_of ⟨rfl, rfl, hS, rfl, r, hR, hB.no fun z => hne (by rw [← hxe]; exact (zokl_el.1 z.1).2 i hi)⟩)
    have go : eli σ cv x → ∀ {l6 : Int32}, RUN X (EV X (d + 6)) 154 (zQ (TQ σ cv D ct0 ct1 l)) 80 [.ref 33, .int (nI l.length), .int (bcv cv), .int (nI (mcs σ cv l i)), .int (nI i), .int (nI x), .int l6] [] (mk (zDm D) ct1) := fun he {l6} => by
      have g2 : ∀ k, k < i + 1 → eli σ cv (l.getD k 0) := fun k hk => by
        by_cases e : k = i
        · subst e; rw [hxe]; exact he
        · exact g1 k (by omega)
      have ms : mcs σ cv l (i + 1) = mcs σ cv l i + (if cv = true then 1 else zz (σ 1 x)) := by rw [← hxe]; rfl
      cases cv
      · refine b154_80 (fun _ => b154_89 (j98 := 9 + x) ⟨by rw [nI_add], by omega, by decide⟩ (by rw [v34]; exact e130 (h.sh1 x (by omega))) (b154_102 (ih _ _ ⟨rfl, ⟨.int (nI x), .int l6, ?_⟩, g2⟩))) (fun z => absurd rfl z)
        rw [ms, nI_add, nI_add]
        rfl
      · refine b154_80 (fun z => absurd z (by decide)) (fun _ => b154_85 (ih _ _ ⟨rfl, ⟨.int (nI x), .int l6, ?_⟩, g2⟩))
        rw [ms, nI_add, nI_add]
        rfl
    refine b154_11 (zix_nI (j := i) (by omega) (by decide)) (fun z => ?_) (fun z => ?_)
    · have hcv : cv = false := by cases cv; rfl; exact absurd z (by decide)
      subst hcv
      rw [v44]
      refine b154_45 (j53 := x) ⟨by rw [nI_add, Nat.zero_add], by omega, by decide⟩ (j63 := 9 + x) ⟨by rw [nI_add], by omega, by decide⟩ (fun q => b154_71 (fun _ => stop (fun y => y ?_)) (fun y => absurd rfl y)) (fun q => b154_67 (fun y => absurd y (by decide)) (fun _ => go (fun y => q ?_)))
      · rw [h36 x (by omega), v34] at q; exact q
      · rw [h36 x (by omega), v34]; exact y
    · have hcv : cv = true := by cases cv; exact absurd rfl z; rfl
      subst hcv
      rw [v44]
      refine b154_24 (j33 := 72 + x) ⟨by rw [nI_add], by omega, by decide⟩ (fun q => b154_37 (fun y => absurd y (by decide)) (fun _ => go ?_)) (fun q => b154_41 (fun _ => stop (fun y => q ?_)) (fun y => absurd rfl y))
      · rw [h36 _ (by omega)] at q; exact q
      · rw [h36 _ (by omega)]; exact y
  · rintro _ ct1 ⟨rfl, ⟨l5, l6, rfl⟩, g1⟩
    have hzl : zokl (sr σ * sc σ) (eli σ cv) l := zokl_el.2 ⟨hz, g1⟩
    have hmc : mcs σ cv l l.length = mc σ cv l := mcs_all h3
    have hml := mc_le (σ := σ) (cv := cv) h3
    rw [hmc]
    refine b154_5 (fun _ => ?_) (fun z => absurd ((zle (by omega) (by omega)).2 (Nat.le_refl _)) z)
    -- is it better?
    have bt : (nI (mc σ cv l) < ct1 33 18 → ∀ s, r = some s → mc σ cv l < mc σ cv s) ∧ (¬ nI (mc σ cv l) < ct1 33 18 → ∃ s, r = some s ∧ ¬ mc σ cv l < mc σ cv s) := by
      rcases r with _ | s
      · have hR : ct1 33 18 = nI 1000000 := hR
        exact ⟨fun _ s e => (by cases e), fun z => absurd (by rw [hR, zlt (by omega) (by omega)]; omega) z⟩
      · have hs := mc_le (σ := σ) (cv := cv) (zokl_len hB.1)
        rw [hR.1, zlt (by omega) (by omega)]
        exact ⟨fun z s' e => (by cases e; exact z), fun z => ⟨s, rfl, z⟩⟩
    refine b154_110 (fun q => ?_) (fun q => b154_118 (zQ_of ⟨rfl, rfl, hS, rfl, r, hR, ?_⟩))
    rotate_left
    · obtain ⟨s, rfl, hb⟩ := bt.2 q
      exact be_mn hB hb
    have hb := bt.1 q
    obtain ⟨_, _, ct2, he2, rfl, rfl, k1, k2⟩ := e149 (X := X) (D := D) (d := d + 4) (ct := ct1) ma.mt
    refine b154_119 he2 (b154_123 ?_)
    refine z_loop0 l.length (fun i ls ct3 => (ls = [.ref 33, .int (nI l.length), .int (bcv cv), .int (nI (mc σ cv l)), .int (nI i), l5, l6]) ∧ (∀ b, b ≠ 37 → ct3 b = ct1 b) ∧ mT ct3 37 (sal σ cv (l.take i))) ⟨rfl, k1, by rw [List.take_zero]; exact k2⟩ ?_ ?_
    · rintro i _ ct3 hi ⟨rfl, g2, g3⟩ ih
      have hx := hlt i hi
      have v44 : ct3 44 i = nI (l.getD i 0) := by rw [g2 44 (by decide)]; exact hset i hi
      refine b154_126 (fun z => ?_) (fun _ => ?_)
      · rw [zle (by omega) (by omega)] at z; omega
      have tk := take_getD hi
      generalize hxe : l.getD i 0 = x at hx v44 tk
      have v34 : ct3 34 (9 + x) = σ 1 x := by rw [g2 34 (by decide)]; exact ma.mp.2.2.2.1 x (by omega)
      have mt := mT_sap (σ := σ) (cv := cv) (x := x) (by omega) g3
      rw [← sal_app, ← tk] at mt
      cases cv
      · have mt : mT (u2 (u2 ct3 37 x (σ 1 x)) 37 (36 + x) (nI 0)) 37 (sal σ false (l.take (i + 1))) := mt
        refine b154_132 (fun _ => b154_155 (zix_nI (j := i) (by omega) (by decide)) (zix_nI (j := i) (by omega) (by decide)) (j180 := 9 + x) ⟨by rw [v44, nI_add], by omega, by decide⟩ (by rw [v44, v34]; exact e138 rfl (by omega)) (b154_184 (ih _ _ ⟨by rw [nI_add], fun b hb => by rw [u2_n hb, u2_n hb, g2 b hb], mt⟩))) (fun z => absurd rfl z)
      · have mt : mT (u2 ct3 37 (72 + x) (nI 1)) 37 (sal σ true (l.take (i + 1))) := mt
        refine b154_132 (fun z => absurd z (by decide)) (fun _ => b154_136 (zix_nI (j := i) (by omega) (by decide)) (j151 := 72 + x) ⟨by rw [v44, nI_add], by omega, by decide⟩ (ih _ _ ⟨by rw [nI_add], fun b hb => by rw [u2_n hb, g2 b hb], mt⟩))
    · rintro _ ct3 ⟨rfl, g2, g3⟩
      rw [List.take_length] at g3
      have ms3 : MS ct0 ct3 := hS.of fun b h1 _ _ => g2 b h1
      refine b154_126 (fun _ => b154_190 (e134 (d := d) h (ms3.ma ha).mp rfl g3 (sal_ok h hz) (sal_w h hz)) ?_) (fun z => absurd ((zle (by omega) (by omega)).2 (Nat.le_refl _)) z)
      rcases spa_if (σ := σ) (s := sal σ cv l) (x := 0) (y := 0) with ⟨p1, p2⟩ | ⟨p1, p2, p3⟩
      · refine b154_198 (fun _ => b154_225 (zQ_of ⟨rfl, rfl, ms3, g2 44 (by decide), r, hR.k (g2 33 (by decide)) (g2 43 (by decide)), hB.no fun z => z.2 p2⟩)) (fun z => absurd p1 z)
      · refine b154_198 (fun z => absurd z p1) (fun _ => ?_)
        obtain ⟨_, _, ct4, he4, rfl, rfl, k3, k4⟩ := e106 (X := X) (D := D) (ct := u2 (u2 ct3 33 18 (nI (mc σ cv l))) 33 17 (nI l.length)) (d := d + 5) (a0 := 44) (a2 := 43) (n0 := 3) (n2 := 3) (i := 0) (j := 0) (m := 3) rfl rfl (by decide) (by decide) (by decide) (by decide) (by decide)
        refine b154_201 he4 (b154_225 (zQ_of ⟨rfl, rfl, ⟨fun b h1 h2 h3 h4 => ?_, fun j h1 h2 => ?_⟩, ?_, some l, ⟨?_, ?_, fun i hi => ?_⟩, be_mc hB hzl p3 hb⟩))
        · rw [k3 b h3, u2_n h1, u2_n h1]; exact ms3.1 b h1 h2 h3 h4
        · rw [k3 33 (by decide), u2_r, pk_un h1, u2_r, pk_un h2]; exact ms3.2 j h1 h2
        · rw [k3 44 (by decide), u2_n (by decide), u2_n (by decide)]; exact g2 44 (by decide)
        · rw [k3 33 (by decide), u2_r, pk_un (by decide), u2_r, pk_us]
        · rw [k3 33 (by decide), u2_r, pk_us]
        · rw [k4, if_pos (by omega), u2_n (by decide), u2_n (by decide), g2 44 (by decide), show 0 + (i - 0) = i by omega]
          exact hset i hi
end
