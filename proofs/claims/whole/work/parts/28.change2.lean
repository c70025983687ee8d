/-! Undo, keep, back, what was fined, the text's letters; and that the state stays a good one. -/
theorem spl_ok2 {N j : Nat} {k old : Int32} {s : Nat → Int32} (h : zOk N s) (hj : j < 36) (hk : zk k) : zOk N (spl j k old s) := spl_ok h hj hk
theorem scut_ok {N : Nat} {s : Nat → Int32} (h : zOk N s) : zOk N (scut s) := by
  unfold scut
  refine ⟨fun j hj => ?_, ?_⟩
  · dsimp only; rw [if_neg (by omega), if_neg (by omega)]; exact h.1 j hj
  · dsimp only; rw [if_neg (by omega)]; exact h.2
theorem shu_ok {N j : Nat} {s : Nat → Int32} (h : zOk N s) (hj : j < 36) : zOk N (shu j s) := by
  unfold shu
  refine ⟨fun i hi => ⟨?_, ?_⟩, ?_⟩
  · rw [pk_un (by omega)]; exact (h.1 i hi).1
  · by_cases q : i = j
    · subst q; rw [pk_us]; split
      · exact Or.inr rfl
      · exact Or.inl rfl
    · rw [pk_un (by omega)]; exact (h.1 i hi).2
  · rw [pk_un (by omega)]; exact h.2
theorem zw_of {s s' : Nat → Int32} (h : zwi (s 108)) (e : s' 108 = s 108) : zwi (s' 108) := by rw [e]; exact h
theorem sgo_w {n : Int32} {s : Nat → Int32} : sgo n s 108 = s 108 := by
  unfold sgo
  rw [if_neg (by omega), if_neg (by omega)]
theorem scut_w {s : Nat → Int32} : scut s 108 = s 108 := by
  unfold scut
  rw [if_neg (by omega)]
theorem sIn_of {N : Nat} {x : Int32} (h : sIn N x = true) (hN : N < 1000000000) : ∃ j, j < N ∧ x = nI j := by
  by_cases q : ∃ j, j < N ∧ x = nI j
  · exact q
  · rw [sIn_n q hN] at h; cases h
theorem WF_56 {σ : zM} {x : Int32} (h : WF σ) : WF (g56 σ x).2 := by
  have hN := h.N
  unfold g56
  split
  · next q =>
    obtain ⟨j, hj, rfl⟩ := sIn_of q (by omega)
    rw [nI_clamp (by omega)]
    split
    · exact h
    · exact WF_now (WF_rem h) (spl_ok h.now (by omega) (h.2.2.2.2.2.2.2.1 j (by omega))) (zw_of h.ww.1 (spl_n (by omega) (by omega)))
  · exact h
theorem WF_58 {σ : zM} {x w : Int32} (h : WF σ) : WF (g58 σ x w).2 := by
  have hN := h.N
  unfold g58
  split
  · next q =>
    obtain ⟨j, hj, rfl⟩ := sIn_of q.1 (by omega)
    obtain ⟨k, hk, rfl⟩ := sIn_of q.2 (by decide)
    rw [nI_clamp (by omega)]
    split
    · exact h
    · exact WF_now (WF_rem h) (spl_ok h.now (by omega) ⟨k, hk, rfl⟩) (zw_of h.ww.1 (spl_n (by omega) (by omega)))
  · exact h
theorem WF_59 {σ : zM} (h : WF σ) : WF (g59 σ).2 := WF_now (WF_rem h) (scut_ok h.now) (zw_of h.ww.1 scut_w)
theorem WF_61 {σ : zM} {x : Int32} (h : WF σ) : WF (g61 σ x).2 := by
  have hN := h.N
  unfold g61
  split
  · next q =>
    obtain ⟨j, hj, rfl⟩ := sIn_of q (by omega)
    rw [nI_clamp (by omega)]
    exact WF_now (WF_rem h) (shu_ok h.now (by omega)) (zw_of h.ww.1 (by unfold shu; rw [pk_un (by omega)]))
  · exact h
theorem WF_62 {σ : zM} {x : Int32} (h : WF σ) : WF (g62 σ x).2 := by
  unfold g62
  split
  · next q =>
    obtain ⟨j, hj, rfl⟩ := sIn_of q (by decide)
    exact WF_now (WF_rem h) (swd_ok h.now) ⟨j, hj, pk_us⟩
  · exact h
theorem WF_63 {σ : zM} {x : Int32} (h : WF σ) : WF (g63 σ x).2 := by
  have hN := h.N
  unfold g63
  split
  · next q =>
    obtain ⟨j, hj, rfl⟩ := sIn_of q (by omega)
    exact WF_now (WF_rem h) (sey_ok h.now hj) (zw_of h.ww.1 (by unfold sey; rw [pk_un (by omega)]))
  · exact h
theorem WF_64 {σ : zM} {x : Int32} (h : WF σ) : WF (g64 σ x).2 := by
  unfold g64
  split
  · exact WF_now (WF_rem h) (sgo_ok h.now) (zw_of h.ww.1 sgo_w)
  · exact h
theorem su_pop {σ : zM} (h : WF σ) : su (sPop σ) = su σ - 1 := by
  have := h.up
  exact nI_clamp (by omega)
theorem WF_pop {σ : zM} (h : WF σ) (hu : 0 < su σ) : WF (sPop σ) := by
  have e := su_pop h
  have hu8 := h.up
  obtain ⟨h1, h2, h3, h4, h5, h6, h7, h8, h9, h10, h11, h12, h13⟩ := h
  refine ⟨h1, h2, h3, ⟨?_, ?_⟩, h5, h6, h7, h8, h9, h11 0 hu, fun i hi => ?_, fun i hi => ?_, h13.1, h13.2.2.1 0 hu, fun i hi => ?_, fun i hi => ?_, h13.2.2.2.2⟩
  · rw [e]; rfl
  · rw [e]; omega
  · rw [e] at hi
    have : sPop σ (10 + i) = σ (10 + (i + 1)) := by
      unfold sPop
      rw [if_neg (by omega), if_neg (by omega), if_pos (by omega)]
      rfl
    rw [this]; exact h11 (i + 1) (by omega)
  · have : sPop σ (20 + i) = σ (20 + i) := by
      unfold sPop
      rw [if_neg (by omega), if_neg (by omega), if_neg (by omega)]
    rw [this]; exact h12 i hi
  · rw [e] at hi
    have : sPop σ (10 + i) = σ (10 + (i + 1)) := by
      unfold sPop
      rw [if_neg (by omega), if_neg (by omega), if_pos (by omega)]
      rfl
    rw [this]; exact h13.2.2.1 (i + 1) (by omega)
  · have : sPop σ (20 + i) = σ (20 + i) := by
      unfold sPop
      rw [if_neg (by omega), if_neg (by omega), if_neg (by omega)]
    rw [this]; exact h13.2.2.2.1 i hi
theorem sk_keep {σ : zM} (h : WF σ) : sk (sKeep σ) = sk σ + 1 := by
  have := h.kp
  exact nI_clamp (by omega)
theorem sKeep_k {σ : zM} {i : Nat} (hi : i < 2) : sKeep σ (20 + i) = spu (σ 3) (fun i => σ (20 + i)) i := by
  rcases (show i = 0 ∨ i = 1 by omega) with rfl | rfl <;> rfl
theorem sKeep_p {σ : zM} {i : Nat} (hi : i < 8) : sKeep σ (10 + i) = σ (10 + i) := by
  unfold sKeep
  rw [if_neg (by omega), if_neg (by omega), if_neg (by omega)]
theorem WF_keep {σ : zM} (h : WF σ) (hu : sk σ < 2) : WF (sKeep σ) := by
  have e := sk_keep h
  have hn := h.now
  have hu8 := h.up
  obtain ⟨h1, h2, h3, h4, h5, h6, h7, h8, h9, h10, h11, h12, h13⟩ := h
  refine ⟨h1, h2, h3, h4, ⟨?_, ?_⟩, h6, h7, h8, h9, h10, fun i hi => ?_, fun i hi => ?_, h13.1, h13.2.1, fun i hi => ?_, fun i hi => ?_, h13.2.2.2.2⟩
  · rw [e]; rfl
  · rw [e]; omega
  · rw [sKeep_p (Nat.lt_of_lt_of_le hi hu8)]; exact h11 i hi
  · rw [e] at hi
    rw [sKeep_k (by omega)]
    unfold spu
    split
    · exact hn
    · exact h12 (i - 1) (by omega)
  · rw [sKeep_p (Nat.lt_of_lt_of_le hi hu8)]; exact h13.2.2.1 i hi
  · rw [e] at hi
    rw [sKeep_k (by omega)]
    unfold spu
    split
    · exact h13.2.1
    · exact h13.2.2.2.1 (i - 1) (by omega)
theorem sk_back {σ : zM} (h : WF σ) : sk (sBack σ) = sk σ - 1 := by
  have := h.kp
  exact nI_clamp (by omega)
theorem WF_back {σ : zM} (h : WF σ) (hu : 0 < sk σ) : WF (sBack σ) := by
  have e := sk_back h
  have hk := h.kp
  obtain ⟨h1, h2, h3, h4, h5, h6, h7, h8, h9, h10, h11, h12, h13⟩ := h
  have eu : su (sBack σ) = 0 := nI_clamp (by decide)
  refine ⟨h1, h2, h3, ⟨?_, ?_⟩, ⟨?_, ?_⟩, h6, h7, h8, h9, h12 0 hu, fun i hi => ?_, fun i hi => ?_, h13.1, h13.2.2.2.1 0 hu, fun i hi => ?_, fun i hi => ?_, h13.2.2.2.2⟩
  · rw [eu]; rfl
  · rw [eu]; decide
  · rw [e]; rfl
  · rw [e]; omega
  · rw [eu] at hi; omega
  · rw [e] at hi
    rcases (show i = 0 by omega) with rfl
    exact h12 1 (by omega)
  · rw [eu] at hi; omega
  · rw [e] at hi
    rcases (show i = 0 by omega) with rfl
    exact h13.2.2.2.1 1 (by omega)
def g66 (σ : zM) : Int32 × zM := if su σ = 0 then ((-2), σ) else (nI (su σ - 1), sPop σ)
def g98 (σ : zM) : Int32 × zM := if sk σ < 2 then (nI (sk σ + 1), sKeep σ) else ((-3), σ)
def g99 (σ : zM) : Int32 × zM := if sk σ = 0 then ((-2), σ) else (nI (sk σ - 1), sBack σ)
def sFine (σ : zM) (d f : Int32) : zM := fun b => if b = 0 then upd (σ 0) 5 (nI (sf σ + 1)) else if b = 5 then upd (upd (σ 5) (2 * sf σ) d) (2 * sf σ + 1) f else σ b
def g83 (σ : zM) (d f : Int32) : Int32 × zM := if (nI 0 ≤ d ∧ d < nI 4) ∧ (nI 0 ≤ f ∧ f ≤ nI 999) then (if sf σ < 6 then (nI (sf σ + 1), sFine σ d f) else ((-3), σ)) else ((-1), σ)
def s0 (σ : zM) (k : Nat) (v : Int32) : zM := fun b => if b = 0 then upd (σ 0) k v else σ b
def g84 (σ : zM) : Int32 × zM := (σ 0 5, s0 σ 5 (nI 0))
def sAdd (σ : zM) (x : Int32) : zM := fun b => if b = 0 then upd (σ 0) 6 (nI (sn σ + 1)) else if b = 4 then upd (σ 4) (sn σ) x else σ b
def g37 (σ : zM) (x : Int32) : Int32 × zM := if nI 32 ≤ x ∧ x ≤ nI 126 then (if sn σ < 200 then (nI (sn σ + 1), sAdd σ x) else ((-3), σ)) else ((-1), σ)
def g38 (σ : zM) : Int32 × zM := (σ 0 6, s0 σ 6 (nI 0))
theorem WF_66 {σ : zM} (h : WF σ) : WF (g66 σ).2 := by
  unfold g66
  split
  · exact h
  · exact WF_pop h (by omega)
theorem WF_98 {σ : zM} (h : WF σ) : WF (g98 σ).2 := by
  unfold g98
  split
  · exact WF_keep h (by assumption)
  · exact h
theorem WF_99 {σ : zM} (h : WF σ) : WF (g99 σ).2 := by
  unfold g99
  split
  · exact h
  · exact WF_back h (by omega)
theorem le3_of {x : Int32} (h : x < nI 4) : x ≤ nI 3 := by
  rw [Int32.lt_iff_toInt_lt] at h
  rw [Int32.le_iff_toInt_le]
  have a : (nI 4).toInt = 4 := by decide
  have b : (nI 3).toInt = 3 := by decide
  omega
theorem sFine_n {σ : zM} {d f : Int32} {b : Nat} (h : b ≠ 0) (h2 : b ≠ 5) : sFine σ d f b = σ b := by
  unfold sFine
  rw [if_neg h, if_neg h2]
theorem WF_83 {σ : zM} {d f : Int32} (h : WF σ) : WF (g83 σ d f).2 := by
  unfold g83
  split
  · next qq =>
    split
    · next q =>
      show WF (sFine σ d f)
      have e : sf (sFine σ d f) = sf σ + 1 := nI_clamp (by omega)
      obtain ⟨h1, h2, h3, h4, h5, h6, h7, h8, h9, h10, h11, h12, h13⟩ := h
      refine ⟨h1, h2, h3, h4, h5, ⟨?_, ?_⟩, h7, h8, h9, h10, fun i hi => ?_, fun i hi => ?_, h13.1, h13.2.1, fun i hi => ?_, fun i hi => ?_, fun i hi => ?_⟩
      · rw [e]; rfl
      · rw [e]; omega
      · rw [sFine_n (by omega) (by omega)]; exact h11 i hi
      · rw [sFine_n (by omega) (by omega)]; exact h12 i hi
      · rw [sFine_n (by omega) (by omega)]; exact h13.2.2.1 i hi
      · rw [sFine_n (by omega) (by omega)]; exact h13.2.2.2.1 i hi
      · rw [e] at hi
        show zwi (upd (upd (σ 5) (2 * sf σ) d) (2 * sf σ + 1) f (2 * i))
        rw [pk_un (by omega)]
        by_cases e2 : i = sf σ
        · subst e2; rw [pk_us]
          obtain ⟨j, hj, rfl⟩ := z_in (n := 3) (x := d) (by decide) (Int32.not_lt.mpr qq.1.1) (le3_of qq.1.2)
          exact ⟨j, by omega, rfl⟩
        · rw [pk_un (by omega)]; exact h13.2.2.2.2 i (by omega)
    · exact h
  · exact h
theorem s0_n {σ : zM} {k b : Nat} {v : Int32} (h : b ≠ 0) : s0 σ k v b = σ b := if_neg h
theorem WF_84 {σ : zM} (h : WF σ) : WF (g84 σ).2 := by
  show WF (s0 σ 5 (nI 0))
  have e : sf (s0 σ 5 (nI 0)) = 0 := nI_clamp (by decide)
  obtain ⟨h1, h2, h3, h4, h5, h6, h7, h8, h9, h10, h11, h12, h13⟩ := h
  refine ⟨h1, h2, h3, h4, h5, ⟨?_, ?_⟩, h7, h8, h9, h10, fun i hi => ?_, fun i hi => ?_, h13.1, h13.2.1, fun i hi => ?_, fun i hi => ?_, fun i hi => ?_⟩
  · rw [e]; rfl
  · rw [e]; decide
  · rw [s0_n (by omega)]; exact h11 i hi
  · rw [s0_n (by omega)]; exact h12 i hi
  · rw [s0_n (by omega)]; exact h13.2.2.1 i hi
  · rw [s0_n (by omega)]; exact h13.2.2.2.1 i hi
  · rw [e] at hi; omega
theorem WF_38 {σ : zM} (h : WF σ) : WF (g38 σ).2 := by
  show WF (s0 σ 6 (nI 0))
  have e : sn (s0 σ 6 (nI 0)) = 0 := nI_clamp (by decide)
  obtain ⟨h1, h2, h3, h4, h5, h6, h7, h8, h9, h10, h11, h12, h13⟩ := h
  refine ⟨h1, h2, h3, h4, h5, h6, ⟨?_, ?_⟩, h8, h9, h10, fun i hi => ?_, fun i hi => ?_, fun j hj => ?_, h13.2.1, fun i hi => ?_, fun i hi => ?_, h13.2.2.2.2⟩
  · rw [e]; rfl
  · rw [e]; decide
  · rw [s0_n (by omega)]; exact h11 i hi
  · rw [s0_n (by omega)]; exact h12 i hi
  · rw [e] at hj; omega
  · rw [s0_n (by omega)]; exact h13.2.2.1 i hi
  · rw [s0_n (by omega)]; exact h13.2.2.2.1 i hi
theorem pk_le32 {x : Int32} (h1 : nI 32 ≤ x) (h2 : x ≤ nI 126) : ∃ q, 32 ≤ q ∧ q ≤ 126 ∧ x = nI q := by
  obtain ⟨q, hq, rfl⟩ := z_in (n := 126) (x := x) (by decide) (fun z => by have := Int32.lt_of_le_of_lt h1 z; revert this; decide) h2
  rw [zle (by omega) (by omega)] at h1
  exact ⟨q, h1, hq, rfl⟩
theorem sAdd_n {σ : zM} {x : Int32} {b : Nat} (h : b ≠ 0) (h2 : b ≠ 4) : sAdd σ x b = σ b := by
  unfold sAdd
  rw [if_neg h, if_neg h2]
theorem WF_37 {σ : zM} {x : Int32} (h : WF σ) : WF (g37 σ x).2 := by
  unfold g37
  split
  · next q0 =>
    split
    · next q =>
      show WF (sAdd σ x)
      have e : sn (sAdd σ x) = sn σ + 1 := nI_clamp (by omega)
      obtain ⟨h1, h2, h3, h4, h5, h6, h7, h8, h9, h10, h11, h12, h13⟩ := h
      refine ⟨h1, h2, h3, h4, h5, h6, ⟨?_, ?_⟩, h8, h9, h10, fun i hi => ?_, fun i hi => ?_, fun j hj => ?_, h13.2.1, fun i hi => ?_, fun i hi => ?_, h13.2.2.2.2⟩
      · rw [e]; rfl
      · rw [e]; omega
      · rw [sAdd_n (by omega) (by omega)]; exact h11 i hi
      · rw [sAdd_n (by omega) (by omega)]; exact h12 i hi
      · rw [e] at hj
        show ∃ q, 32 ≤ q ∧ q ≤ 126 ∧ upd (σ 4) (sn σ) x j = nI q
        by_cases e2 : j = sn σ
        · subst e2; rw [pk_us]; exact pk_le32 q0.1 q0.2
        · rw [pk_un e2]; exact h13.1 j (by omega)
      · rw [sAdd_n (by omega) (by omega)]; exact h13.2.2.1 i hi
      · rw [sAdd_n (by omega) (by omega)]; exact h13.2.2.2.1 i hi
    · exact h
  · exact h
