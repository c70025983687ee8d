/-! The two pasts: a town is pushed, a town is taken back. -/
def xisr (s : String) : Bool := match parseFieldDescriptor s with
  | some (.object _) => true
  | some (.array _) => true
  | _ => false
theorem xfit_r {ci k N x : Nat} {Cn : String} {T : u_T} (h : xcls[ci]? = some (Cn, T, N)) (hp : xisr (T k).2.2.1 = true) : xfit ci k (.ref x) := by
  unfold xisr at hp
  unfold xfit
  rw [h]
  dsimp only
  split at hp
  · next e => rw [e]; exact ⟨rfl, rfl⟩
  · next e => rw [e]; exact ⟨rfl, rfl⟩
  · cases hp
/-- the places of the past whose row is a -/
def pl (D : zD) (a : Nat) : Nat → Option Nat := if a = 19 then D.2.1 else D.2.2
def plu (D : zD) (a j w : Nat) : zD := if a = 19 then (D.1, va_up D.2.1 j (some w), D.2.2) else (D.1, D.2.1, va_up D.2.2 j (some w))
theorem plu_1 {D : zD} {a j w : Nat} : (plu D a j w).1 = D.1 := by
  unfold plu; split <;> rfl
theorem plu_pl {D : zD} {a j w : Nat} : pl (plu D a j w) a = va_up (pl D a) j (some w) := by
  unfold plu pl
  by_cases h : a = 19
  · simp only [if_pos h]
  · simp only [if_neg h]
theorem plu_o {D : zD} {a b j w : Nat} (hb : b ≠ a) (h : (a = 19 ∨ a = 21) ∧ (b = 19 ∨ b = 21)) : pl (plu D a j w) b = pl D b := by
  unfold plu pl
  rcases h with ⟨rfl | rfl, rfl | rfl⟩
  · exact absurd rfl hb
  · rfl
  · rfl
  · exact absurd rfl hb
theorem zsh_13 {D : zD} {b : Nat} (h : (zsh D b).1 = 13) : b = 19 ∨ b = 21 := by
  rcases zsh_c D b with ⟨h1, h2⟩ | h2 | ⟨h1, h2, h3, h4⟩
  · rw [h2] at h
    have key : ∀ a : Nat, a < 45 → (zT.getD a (99, 0)).1 = 13 → a = 19 ∨ a = 21 := by decide +kernel
    exact key b h1 h
  · rw [h2] at h; cases h
  · rw [h4] at h
    have key : ∀ k : Nat, k < 4 → (zT4.getD k (99, 0)).1 = 13 → False := by decide +kernel
    exact (key _ (Nat.mod_lt _ (by decide)) h).elim
theorem zsh_u {D D' : zD} (h : D.1 = D'.1) (a : Nat) : zsh D a = zsh D' a := by
  unfold zsh
  rw [h]
/-- a cell's picture, by its parts -/
theorem zc_u {D D' : zD} {b : Nat} {r : Nat → Int32} (h : zsh D b = zsh D' b) (hp : (zsh D b).1 = 13 → pl D b = pl D' b) : zc D b r = zc D' b r := by
  unfold zc
  rw [← h]
  split
  · rfl
  · split
    · rfl
    · split
      · rfl
      · split
        · rfl
        · split
          · next e => 
            have := hp e
            unfold pl at this
            rw [this]
          · rfl
theorem mk_u {D D' : zD} {ct ct' : zM} (h1 : D.1 = D'.1) (hp : ∀ b, b = 19 ∨ b = 21 → pl D b = pl D' b) (hc : ∀ b, ct b = ct' b) : mk D ct = mk D' ct' := by
  unfold mk
  rw [h1]
  refine Prod.ext rfl (Prod.ext rfl (funext fun b => ?_))
  show zc D b (ct b) = zc D' b (ct' b)
  rw [hc b]
  exact zc_u (zsh_u h1 b) fun h => hp b (zsh_13 h)
section
variable {X : Nat × (Nat → Int32)} {C : Nat → List Value → xHp → Option Value → xHp → Prop} {m : Nat} {Q : Option Value → xHp → Prop} {pc : Nat} {ls st r : List Value} {nf : List Nat} {D : zD} {ct : zM}
theorem s_aald {a j : Nat} {x : Int32} {o : Option Nat} (hc : xCD m pc = some (.aaload, nf)) (hs : zsh D a = (13, 8)) (hx : zix x j 8) (ho : pl D a j = o) (kk : RUN X C m Q (pc + 1) ls (va_rf o :: r) (mk D ct)) : RUN X C m Q pc ls (.int x :: .ref a :: r) (mk D ct) := (RUN_iff hc).mpr (by
  obtain ⟨h1, h2⟩ := zix_in hx
  show xaq (hg (mk D ct) a) fun n g => vp_in x n ∧ RUN X C m Q (pc + 1) ls (va_rf (g x.toNatClampNeg) :: r) (mk D ct)
  rw [hg_mk, zc_13 hs]
  refine ⟨rfl, h1, ?_⟩
  rw [h2]
  unfold pl at ho
  rw [ho]
  exact kk)
theorem s_aast {a j w : Nat} {x : Int32} (hc : xCD m pc = some (.aastore, nf)) (ha : a = 19 ∨ a = 21) (hx : zix x j 8) (hw : zsh D w = (3, 0)) (kk : RUN X C m Q (pc + 1) ls r (mk (plu D a j w) ct)) : RUN X C m Q pc ls (.ref w :: .int x :: .ref a :: r) (mk D ct) := (RUN_iff hc).mpr (by
  obtain ⟨h1, h2⟩ := zix_in hx
  have hs : zsh D a = (13, 8) := by rcases ha with rfl | rfl <;> rfl
  show xaq (hg (mk D ct) a) fun n g => vp_in x n ∧ xob (hg (mk D ct) w) 3 fun _ => RUN X C m Q (pc + 1) ls r (xset (mk D ct) a (.inl (3, n, .inr (va_up g x.toNatClampNeg (some w)))))
  rw [hg_mk, zc_13 hs, hg_mk, zc_o hw (by decide)]
  refine ⟨rfl, h1, rfl, ?_⟩
  have e : xset (mk D ct) a (.inl (3, 8, .inr (va_up (if a = 19 then D.2.1 else D.2.2) x.toNatClampNeg (some w)))) = mk (plu D a j w) ct := by
    unfold xset mk
    rw [h2, plu_1]
    refine Prod.ext rfl (Prod.ext rfl (funext fun b => ?_))
    show (if b = a then _ else zc D b (ct b)) = zc (plu D a j w) b (ct b)
    by_cases hb : b = a
    · subst hb
      rw [if_pos rfl, zc_13 ((zsh_u plu_1 b).trans hs)]
      have := plu_pl (D := D) (a := b) (j := j) (w := w)
      unfold pl at this
      rw [this]
    · rw [if_neg hb]
      exact zc_u (zsh_u plu_1.symm b) fun h => (plu_o hb ⟨ha, zsh_13 h⟩).symm
  rw [e]
  exact kk)
/-! Steps over any cells. -/
variable {h : xHp}
theorem s_newo {i ci w0 w1 w2 : Nat} {fs : List Value} (hc : xCD m pc = some (.new i, [ci, w0, w1, w2])) (hd : xdef.getD ci [] = fs) (kk : RUN X C m Q (pc + 3) ls (.ref h.1 :: st) (xnew h fs.length (.inr (ci, fs)))) : RUN X C m Q pc ls st h := (RUN_iff hc).mpr (by
  subst hd
  exact kk)
theorem s_newa {t n w : Nat} {ty : _} (hc : xCD m pc = some (.newarray ty, [t, w])) (hn : n ≤ 1000) (kk : RUN X C m Q (pc + 2) ls (.ref h.1 :: r) (xnew h n (.inl (t, n, .inl fun _ => 0)))) : RUN X C m Q pc ls (.int (nI n) :: r) h := (RUN_iff hc).mpr (by
  have q : ¬ nI n < nI 0 := nI_nlt (by omega) (by omega)
  refine ⟨q, ?_⟩
  rw [nI_clamp (by omega)]
  exact ⟨hn, kk⟩)
theorem s_newr {i n w0 w1 : Nat} (hc : xCD m pc = some (.anewarray i, [w0, w1])) (hn : n ≤ 1000) (kk : RUN X C m Q (pc + 3) ls (.ref h.1 :: r) (xnew h n (.inl (3, n, .inr fun _ => none)))) : RUN X C m Q pc ls (.int (nI n) :: r) h := (RUN_iff hc).mpr (by
  have q : ¬ nI n < nI 0 := nI_nlt (by omega) (by omega)
  refine ⟨q, ?_⟩
  rw [nI_clamp (by omega)]
  exact ⟨hn, kk⟩)
theorem s_obj {i w0 w1 w2 w3 a : Nat} (hc : xCD m pc = some (.invokespecial i, [w0, w1, w2, w3])) (hr : xcat r ≤ 8) (kk : RUN X C m Q (pc + 3) ls r h) : RUN X C m Q pc ls (.ref a :: r) h := (RUN_iff hc).mpr ⟨hr, kk⟩
theorem s_puth {ci k i w a : Nat} {v : Value} {fs : List Value} (hc : xCD m pc = some (.putfield i, [ci, k, w])) (hg1 : hg h a = some (.inr (ci, fs))) (hk : k < fs.length) (hf : xfit ci k v) (kk : RUN X C m Q (pc + 3) ls r (xset h a (.inr (ci, fs.set k v)))) : RUN X C m Q pc ls (v :: .ref a :: r) h := (RUN_iff hc).mpr (by
  show xob (hg h a) ci fun fs => k < fs.length ∧ xfit ci k v ∧ RUN X C m Q (pc + 3) ls r (xset h a (.inr (ci, fs.set k v)))
  rw [hg1]
  exact ⟨rfl, hk, hf, kk⟩)
theorem s_geth {ci k i w a : Nat} {v : Value} {fs : List Value} (hc : xCD m pc = some (.getfield i, [ci, k, w])) (hg1 : hg h a = some (.inr (ci, fs))) (hv : fs[k]? = some v) (kk : RUN X C m Q (pc + 3) ls (v :: r) h) : RUN X C m Q pc ls (.ref a :: r) h := (RUN_iff hc).mpr (by
  show xob (hg h a) ci fun fs => xsm fs[k]? fun v => RUN X C m Q (pc + 3) ls (v :: r) h
  rw [hg1]
  refine ⟨rfl, ?_⟩
  show xsm fs[k]? _
  rw [hv]
  exact kk)
theorem s_init {i m2 n b w1 w2 w3 w4 w5 : Nat} {args : List Value} {h1 : xHp} (hc : xCD m pc = some (.invokespecial i, [m2, n, w1, w2, w3, w4, w5])) (hst : st = args.reverse ++ .ref b :: r) (hn : args.length = n) (hr : xcat r ≤ 8) (he : C m2 (.ref b :: args) h none h1) (kk : RUN X C m Q (pc + 3) ls r h1) : RUN X C m Q pc ls st h := (RUN_iff hc).mpr (by
  subst hst hn
  show xr1 (List.drop args.length (args.reverse ++ .ref b :: r)) _
  rw [← List.length_reverse (as := args), List.drop_left, List.take_left, List.reverse_reverse]
  exact ⟨hr, h1, he, kk⟩)
end
theorem hg_new {h : xHp} {k a : Nat} {c : xC} (ha : a < h.1) : hg (xnew h k c) a = hg h a := by
  unfold hg xnew
  exact if_neg (by omega)
theorem hg_newl {h : xHp} {k : Nat} {c : xC} : hg (xnew h k c) h.1 = some c := by
  unfold hg xnew
  exact if_pos rfl
theorem hg_set {h : xHp} {a b : Nat} {c : xC} (hb : b ≠ a) : hg (xset h a c) b = hg h b := by
  unfold hg xset
  exact if_neg hb
theorem hg_setl {h : xHp} {a : Nat} {c : xC} : hg (xset h a c) a = some c := by
  unfold hg xset
  exact if_pos rfl
/-- the cells behind a new town's making -/
def hTown (h : xHp) (a : Nat) : xHp := (h.1 + 3, h.2.1 + 108, fun b => if b = a then some (.inr (3, [.ref h.1, .ref (h.1 + 1), .ref (h.1 + 2), .int 0, .int 0, .int 0])) else if b = h.1 then some (.inl (0, 36, .inl fun _ => 0)) else if b = h.1 + 1 then some (.inl (0, 36, .inl fun _ => 0)) else if b = h.1 + 2 then some (.inl (2, 36, .inl fun _ => 0)) else h.2.2 b)
section
variable {X : Nat × (Nat → Int32)} {d a : Nat} {h : xHp}
theorem e4 (ha : a < h.1) (hh : hg h a = some (.inr (3, [.null, .null, .null, .int 0, .int 0, .int 0]))) : EV X (d + 1) 4 [.ref a] h none (hTown h a) := by
  refine EV_intro (Nat.le_of_ble_eq_true rfl) ?_
  refine s_aload_n c4_0 rfl <| s_obj c4_1 (by decide) <| s_aload_n c4_4 rfl <| s_bipush c4_5 zcB_36 <| s_newa c4_7 (by decide) <| ?_
  refine s_puth c4_9 ((hg_new ha).trans hh) (by decide) (xfit_r (T := xT3) rfl (by decide +kernel)) <| ?_
  refine s_aload_n c4_12 rfl <| s_bipush c4_13 zcB_36 <| s_newa c4_15 (by decide) <| ?_
  refine s_puth c4_17 ((hg_new (Nat.lt_succ_of_lt ha)).trans hg_setl) (Nat.le_of_ble_eq_true rfl) (xfit_r (T := xT3) rfl (by decide +kernel)) <| ?_
  refine s_aload_n c4_20 rfl <| s_bipush c4_21 zcB_36 <| s_newa c4_23 (by decide) <| ?_
  refine s_puth c4_25 ((hg_new (Nat.lt_succ_of_lt (Nat.lt_succ_of_lt ha))).trans hg_setl) (Nat.le_of_ble_eq_true rfl) (xfit_r (T := xT3) rfl (by decide +kernel)) <| ?_
  refine s_ret c4_28 rfl ⟨rfl, ?_⟩
  unfold hTown xset xnew
  refine Prod.ext rfl (Prod.ext (by dsimp only) (funext fun b => ?_))
  dsimp only
  by_cases h0 : b = a
  · subst h0; simp
  · by_cases h1 : b = h.1
    · subst h1; simp [h0]; omega
    · by_cases h2 : b = h.1 + 1
      · subst h2; simp [h0]
      · by_cases h3 : b = h.1 + 2
        · subst h3; simp [h0]
        · simp [h0, h1, h2, h3]
end
/-- rows of a town just made -/
def zw (ct : zM) (w : Nat) : zM := fun b => if w ≤ b ∧ b ≤ w + 3 then fun _ => 0 else ct b
theorem zsh_nw {E : zD} {b : Nat} (h : ¬ (45 + 4 * E.1 ≤ b ∧ b ≤ 45 + 4 * E.1 + 3)) : zsh (zDm E) b = zsh (zDm (E.1 + 1, E.2)) b := by
  unfold zsh zDm
  dsimp only
  by_cases h1 : b < 33
  · rw [if_pos h1, if_pos h1]
  rw [if_neg h1, if_neg h1, if_neg (show ¬ E.1 + 1 = 0 by omega), if_neg (show ¬ E.1 + 1 + 1 = 0 by omega)]
  by_cases h2 : b < 45
  · rw [if_pos h2, if_pos h2]
  rw [if_neg h2, if_neg h2]
  by_cases h3 : (b - 45) / 4 < E.1 + 1 - 1
  · rw [if_pos h3, if_pos (by omega)]
  · rw [if_neg h3, if_neg (by omega)]
theorem mk_s {E : zD} {ct : zM} : (mk (zDm E) ct).1 = 45 + 4 * E.1 := by
  unfold mk zDm
  dsimp only
  rw [if_neg (by omega)]
  omega
theorem mk_new {E : zD} {ct : zM} : hTown (xnew (mk (zDm E) ct) 6 (.inr (3, [.null, .null, .null, .int 0, .int 0, .int 0]))) (mk (zDm E) ct).1 = mk (zDm (E.1 + 1, E.2)) (zw ct (45 + 4 * E.1)) := by
  rw [mk_s]
  have e0 : (xnew (mk (zDm E) ct) 6 (.inr (3, [.null, .null, .null, .int 0, .int 0, .int 0]))).1 = 45 + 4 * E.1 + 1 := congrArg (· + 1) mk_s
  unfold hTown
  rw [e0]
  refine Prod.ext ?_ (Prod.ext ?_ (funext fun b => ?_))
  · show 45 + 4 * E.1 + 1 + 3 = (mk (zDm (E.1 + 1, E.2)) _).1
    rw [mk_s]
    dsimp only
    omega
  · show (if E.1 + 1 = 0 then 745 else 2366 + 114 * (E.1 + 1)) + 6 + 108 = (if E.1 + 1 + 1 = 0 then 745 else 2366 + 114 * (E.1 + 1 + 1))
    rw [if_neg (by omega), if_neg (by omega)]
    omega
  · have dy : ∀ i, i < 4 → zsh (zDm (E.1 + 1, E.2)) (45 + 4 * E.1 + i) = zT4.getD i (99, 0) := by
      intro i hi
      rw [zsh_dy (by omega) (by unfold zDm; dsimp only; omega) (by unfold zDm; dsimp only; omega), show (45 + 4 * E.1 + i - 45) % 4 = i by omega]
    show (if b = 45 + 4 * E.1 then _ else if b = 45 + 4 * E.1 + 1 then _ else if b = 45 + 4 * E.1 + 1 + 1 then _ else if b = 45 + 4 * E.1 + 1 + 2 then _ else (if b = (mk (zDm E) ct).1 then _ else zc (zDm E) b (ct b))) = zc (zDm (E.1 + 1, E.2)) b (zw ct (45 + 4 * E.1) b)
    by_cases h0 : b = 45 + 4 * E.1
    · rw [if_pos h0]
      subst h0
      rw [zc_o (show zsh (zDm (E.1 + 1, E.2)) (45 + 4 * E.1) = (3, 0) from dy 0 (by decide)) (by decide)]
      unfold zw
      rw [if_pos (by omega)]
      rfl
    rw [if_neg h0]
    by_cases h1 : b = 45 + 4 * E.1 + 1
    · rw [if_pos h1]
      subst h1
      rw [zc_10 (dy 1 (by decide))]
      unfold zw
      rw [if_pos (by omega)]
    rw [if_neg h1]
    by_cases h2 : b = 45 + 4 * E.1 + 1 + 1
    · rw [if_pos h2]
      subst h2
      rw [zc_10 (dy 2 (by decide))]
      unfold zw
      rw [if_pos (by omega)]
    rw [if_neg h2]
    by_cases h3 : b = 45 + 4 * E.1 + 1 + 2
    · rw [if_pos h3]
      subst h3
      rw [zc_12 (dy 3 (by decide))]
      unfold zw
      rw [if_pos (by omega)]
    rw [if_neg h3, if_neg (by rw [mk_s]; exact h0)]
    unfold zw
    rw [if_neg (by omega)]
    exact zc_u (zsh_nw (by omega)) fun _ => rfl
/-- one more on top -/
def spu (s : Nat → Int32) (h : Nat → Nat → Int32) : Nat → Nat → Int32 := fun i => if i = 0 then s else h (i - 1)
theorem CR.keep2 {ct ct' : zM} {q n : Nat} {f f' : Nat → Option Nat} {h : Nat → Nat → Int32} (hr : CR ct q f n h) (k1 : ct' q = ct q) (hf : ∀ i a, f i = some a → f' i = some a ∧ ∀ b, a ≤ b → b ≤ a + 3 → ct' b = ct b) : CR ct' q f' n h := by
  obtain ⟨h1, t, ht, h2, h3⟩ := hr
  refine ⟨by rw [k1]; exact h1, t, ht, by rw [k1]; exact h2, fun i hi => ?_⟩
  obtain ⟨a, ha, hm⟩ := h3 i hi
  obtain ⟨g1, g2⟩ := hf _ _ ha
  exact ⟨a, g1, hm.keep g2⟩
/-- D's towns of the past q (its row is q + 1), and of the other one, q2 -/
def PV (D : zD) (q q2 : Nat) : Prop := (∀ i a, pl D (q + 1) i = some a → 45 ≤ a ∧ zsh D a = (3, 0)) ∧ (∀ i a, pl D (q2 + 1) i = some a → 45 ≤ a ∧ zsh D a = (3, 0)) ∧ (∀ i i' a, pl D (q + 1) i = some a → pl D (q + 1) i' = some a → i = i') ∧ (∀ i i' a, pl D (q2 + 1) i = some a → pl D (q2 + 1) i' = some a → i = i') ∧ ∀ i i' a, pl D (q + 1) i = some a → pl D (q2 + 1) i' = some a → False
def QQ (q q2 : Nat) : Prop := (q = 18 ∧ q2 = 20) ∨ (q = 20 ∧ q2 = 18)
theorem CDv.pv {D : zD} {q q2 : Nat} (h : CDv D) (hq : QQ q q2) : PV D q q2 := by
  rcases hq with ⟨rfl, rfl⟩ | ⟨rfl, rfl⟩
  · exact h
  · exact ⟨h.2.1, h.1, h.2.2.2.1, h.2.2.1, fun i i' a g1 g2 => h.2.2.2.2 i' i a g2 g1⟩
theorem PV.cdv {D : zD} {q q2 : Nat} (h : PV D q q2) (hq : QQ q q2) : CDv D := by
  rcases hq with ⟨rfl, rfl⟩ | ⟨rfl, rfl⟩
  · exact h
  · exact ⟨h.2.1, h.1, h.2.2.2.1, h.2.2.1, fun i i' a g1 g2 => h.2.2.2.2 i' i a g2 g1⟩
section
variable {X : Nat × (Nat → Int32)} {d q q2 n t w : Nat} {D : zD} {E : zD} {ct : zM} {s : Nat → Int32} {h h2 : Nat → Nat → Int32}
/-- the place is filled: the town goes there -/
theorem r57 {Q : Option Value → xHp → Prop} (hq : QQ q q2) (hw : pl D (q + 1) t = some w) (ht : t < 8) (hn : n ≤ 8) (h3 : zsh D w = (3, 0)) (h45 : 45 ≤ w) (h1 : ct q 1 = nI t) (h2 : ct q 2 = nI n) (hm : zTm ct 14 s) (hb : ∀ j, j < 36 → zb (ct 17 j))
    (kk : ∀ ct3, zTm ct3 w s → (∀ b, ¬ (w ≤ b ∧ b ≤ w + 3) → b ≠ q → ct3 b = ct b) → ct3 q 1 = nI (if t + 1 < 8 then t + 1 else 0) → ct3 q 2 = nI (if n < 8 then n + 1 else n) → Q none (mk D ct3)) :
    RUN X (EV X (d + 1)) 57 Q 45 [.ref q, .ref 14] [] (mk D ct) := by
  have hs : zsh D q = (4, 0) := by rcases hq with ⟨rfl, -⟩ | ⟨rfl, -⟩ <;> rfl
  have hs2 : zsh D (q + 1) = (13, 8) := by rcases hq with ⟨rfl, -⟩ | ⟨rfl, -⟩ <;> rfl
  have q45 : q < 45 ∧ q ≠ 14 := by rcases hq with ⟨rfl, -⟩ | ⟨rfl, -⟩ <;> decide
  obtain ⟨_, _, ct2, he, rfl, rfl, g1, g2⟩ := e34 (X := X) (D := D) (ct := ct) (d := d) (a := w) (o := 14) h3 rfl (by omega) hb
  refine s_aload_n c57_45 rfl <| s_getf c57_46 hs (by decide) rfl <| s_aload_n c57_49 rfl <| s_getf c57_50 hs (by decide) rfl <| ?_
  rw [h1]
  refine s_aald c57_53 hs2 (zix_nI ht (by decide)) hw <| s_aload_n c57_54 rfl <| ?_
  refine s_callv (args := [.ref 14]) (a := w) c57_55 rfl rfl (by decide) h3 ⟨rfl, by decide⟩ he ?_
  have k1 : ct2 q = ct q := g2 q (by omega)
  refine s_aload_n c57_58 rfl <| s_aload_n c57_59 rfl <| s_getf c57_60 hs (by decide) rfl <| s_const c57_63 zcI_1 <| s_iadd c57_64 <| s_bipush c57_65 zcB_8 <| ?_
  rw [k1, h1, nI_add]
  have fin : ∀ t' : Nat, nI t' = nI (if t + 1 < 8 then t + 1 else 0) → RUN X (EV X (d + 1)) 57 Q 83 [.ref q, .ref 14] [] (mk D (u2 ct2 q 1 (nI t'))) := by
    intro t' ht'
    have k2 : (u2 ct2 q 1 (nI t')) q 2 = nI n := by rw [u2_a, if_neg (by omega), k1, h2]
    have mm : ∀ ct3 : zM, (∀ b, b ≠ q → ct3 b = ct2 b) → zTm ct3 w s := fun ct3 k => (hm.of g1).keep fun b z1 z2 => k b (by omega)
    refine s_aload_n c57_83 rfl <| s_getf c57_84 hs (by decide) rfl <| s_bipush c57_87 zcB_8 <| ?_
    rw [k2]
    refine s_icge c57_89 (fun z => ?_) (fun z => ?_)
    · rw [zle (by omega) (by omega)] at z
      refine s_ret c57_102 rfl (kk _ (mm _ fun b hb => u2_n hb) (fun b z1 z2 => by rw [u2_n z2]; exact g2 b z1) ?_ ?_)
      · rw [u2_a, if_pos ⟨rfl, rfl⟩]; exact ht'
      · rw [k2, if_neg (by omega)]
    · rw [zle (by omega) (by omega)] at z
      refine s_aload_n c57_92 rfl <| s_dup c57_93 rfl <| s_getf c57_94 hs (by decide) rfl <| s_const c57_97 zcI_1 <| s_iadd c57_98 <| ?_
      rw [k2, nI_add]
      refine s_putf c57_99 hs (by decide) zint_4_2 xfit_4_2 <| s_ret c57_102 rfl (kk _ (mm _ fun b hb => by rw [u2_n hb, u2_n hb]) (fun b z1 z2 => by rw [u2_n z2, u2_n z2]; exact g2 b z1) ?_ ?_)
      · rw [u2_a, if_neg (by omega), u2_a, if_pos ⟨rfl, rfl⟩]; exact ht'
      · rw [u2_a, if_pos ⟨rfl, rfl⟩, if_pos (by omega)]
  refine s_icge c57_67 (fun z => ?_) (fun z => ?_)
  · rw [zle (by omega) (by omega)] at z
    refine s_const c57_79 zcI_0 <| s_putf c57_80 hs (by decide) zint_4_1 xfit_4_1 <| fin 0 ?_
    rw [if_neg (by omega)]
  · rw [zle (by omega) (by omega)] at z
    refine s_aload_n c57_70 rfl <| s_getf c57_71 hs (by decide) rfl <| s_const c57_74 zcI_1 <| s_iadd c57_75 <| ?_
    rw [k1, h1, nI_add]
    refine s_goto c57_76 <| s_putf c57_80 hs (by decide) zint_4_1 xfit_4_1 <| fin (t + 1) ?_
    rw [if_pos (by omega)]
end
