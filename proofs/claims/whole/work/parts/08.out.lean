/-! Where a step goes: one next state, or the end; and how the cells change. -/
def xrel (C : Nat → List Value → xHp → Option Value → xHp → Prop) (h h2 : xHp) : Prop :=
  h2 = h ∨ (∃ a c c0, hg h a = some c0 ∧ h2 = xset h a c) ∨ (∃ k c, h2 = xnew h k c) ∨ ∃ m2 av v, C m2 av h v h2
def xgo (X : Nat × (Nat → Int32)) (C : Nat → List Value → xHp → Option Value → xHp → Prop) (m : Nat) (i : Instr) (nf : List Nat) (pc : Nat) (ls st : List Value) (h : xHp) (K : Nat → List Value → List Value → xHp → Prop) (Q : Option Value → xHp → Prop) : Prop :=
  (∃ pc' ls' st' h2, K pc' ls' st' h2 ∧ xrel C h h2 ∧ ∀ K' Q', K' pc' ls' st' h2 → stp X C m i nf pc ls st h K' Q') ∨ (∃ v, Q v h ∧ ∀ K' Q', Q' v h → stp X C m i nf pc ls st h K' Q')
section XO
variable {X : Nat × (Nat → Int32)} {C : Nat → List Value → xHp → Option Value → xHp → Prop} {m : Nat} {i : Instr} {nf : List Nat} {pc : Nat} {ls st : List Value} {h : xHp} {K : Nat → List Value → List Value → xHp → Prop} {Q : Option Value → xHp → Prop}
theorem xgo_same {pc' : Nat} {ls' st' : List Value} (hk : K pc' ls' st' h) (f : ∀ K' Q', K' pc' ls' st' h → stp X C m i nf pc ls st h K' Q') : xgo X C m i nf pc ls st h K Q := Or.inl ⟨_, _, _, _, hk, Or.inl rfl, f⟩
theorem xgo_set {pc' a : Nat} {ls' st' : List Value} {c c0 : xC} (h0 : hg h a = some c0) (hk : K pc' ls' st' (xset h a c)) (f : ∀ K' Q', K' pc' ls' st' (xset h a c) → stp X C m i nf pc ls st h K' Q') : xgo X C m i nf pc ls st h K Q := Or.inl ⟨_, _, _, _, hk, Or.inr (Or.inl ⟨a, c, c0, h0, rfl⟩), f⟩
theorem xgo_new {pc' k : Nat} {ls' st' : List Value} {c : xC} (hk : K pc' ls' st' (xnew h k c)) (f : ∀ K' Q', K' pc' ls' st' (xnew h k c) → stp X C m i nf pc ls st h K' Q') : xgo X C m i nf pc ls st h K Q := Or.inl ⟨_, _, _, _, hk, Or.inr (Or.inr (Or.inl ⟨k, c, rfl⟩)), f⟩
theorem xgo_call {pc' m2 : Nat} {ls' st' av : List Value} {v : Option Value} {h2 : xHp} (hc : C m2 av h v h2) (hk : K pc' ls' st' h2) (f : ∀ K' Q', K' pc' ls' st' h2 → stp X C m i nf pc ls st h K' Q') : xgo X C m i nf pc ls st h K Q := Or.inl ⟨_, _, _, _, hk, Or.inr (Or.inr (Or.inr ⟨m2, av, v, hc⟩)), f⟩
theorem xgo_end {v : Option Value} (hq : Q v h) (f : ∀ K' Q', Q' v h → stp X C m i nf pc ls st h K' Q') : xgo X C m i nf pc ls st h K Q := Or.inr ⟨v, hq, f⟩
theorem xgo_if {c : Prop} [Decidable c] {A B : Nat} {ls' st' : List Value} (hs : if c then K A ls' st' h else K B ls' st' h) (f : ∀ K' (Q' : Option Value → xHp → Prop), (if c then K' A ls' st' h else K' B ls' st' h) → stp X C m i nf pc ls st h K' Q') : xgo X C m i nf pc ls st h K Q := by
  by_cases hc : c
  · rw [if_pos hc] at hs
    exact xgo_same hs fun K' Q' hk => f K' Q' (by rw [if_pos hc]; exact hk)
  · rw [if_neg hc] at hs
    exact xgo_same hs fun K' Q' hk => f K' Q' (by rw [if_neg hc]; exact hk)
end XO
set_option maxHeartbeats 2000000 in
theorem stp_out {X : Nat × (Nat → Int32)} {C : Nat → List Value → xHp → Option Value → xHp → Prop} {m : Nat} {i : Instr} {nf : List Nat} {pc : Nat} {ls st : List Value} {h : xHp} {K : Nat → List Value → List Value → xHp → Prop} {Q : Option Value → xHp → Prop} (hs : stp X C m i nf pc ls st h K Q) : xgo X C m i nf pc ls st h K Q := by
  cases i
  all_goals first
    | exact False.elim hs
    | exact xgo_same hs fun _ _ hk => hk
    | (obtain ⟨x, y, r, rfl, hs⟩ := xi2_ex hs; exact xgo_same hs fun _ _ hk => hk)
    | (obtain ⟨x, y, r, rfl, hc, hs⟩ := xi2_ex hs; exact xgo_same hs fun _ _ hk => ⟨hc, hk⟩)
    | (obtain ⟨x, y, r, rfl, hs⟩ := xl2_ex hs; exact xgo_same hs fun _ _ hk => hk)
    | (obtain ⟨x, y, r, rfl, hc, hs⟩ := xl2_ex hs; exact xgo_same hs fun _ _ hk => ⟨hc, hk⟩)
    | (obtain ⟨x, r, rfl, hs⟩ := xi1_ex hs; exact xgo_same hs fun _ _ hk => hk)
    | (obtain ⟨x, r, rfl, hc, hd, hs⟩ := xi1_ex hs; exact xgo_same hs fun _ _ hk => ⟨hc, hd, hk⟩)
    | (obtain ⟨x, r, rfl, hs⟩ := xl1_ex hs; exact xgo_same hs fun _ _ hk => hk)
    | (obtain ⟨x, r, rfl, hc, hd, hs⟩ := xl1_ex hs; exact xgo_same hs fun _ _ hk => ⟨hc, hd, hk⟩)
    | (obtain ⟨x, r, rfl, hc, hd, hs⟩ := xr1_ex hs; exact xgo_same hs fun _ _ hk => ⟨hc, hd, hk⟩)
    | (obtain ⟨x, r, rfl, hc, hs⟩ := xv1_ex hs; exact xgo_same hs fun _ _ hk => ⟨hc, hk⟩)
    | (obtain ⟨x, e, hs⟩ := xio_ex hs; exact xgo_same hs fun _ _ hk => by unfold stp; dsimp only; rw [e]; exact hk)
    | (obtain ⟨x, e, hc, hs⟩ := xio_ex hs; exact xgo_same hs fun _ _ hk => by unfold stp; dsimp only; rw [e]; exact ⟨hc, hk⟩)
    | (obtain ⟨x, e, hs⟩ := xlo_ex hs; exact xgo_same hs fun _ _ hk => by unfold stp; dsimp only; rw [e]; exact hk)
    | skip
  case dup2 =>
    unfold stp at hs; dsimp only at hs; split at hs
    · exact xgo_same hs.2.2 fun _ _ hk => ⟨hs.1, hs.2.1, hk⟩
    · exact hs.elim
  case ldc =>
    unfold stp at hs; dsimp only at hs; split at hs
    · exact xgo_same hs fun _ _ hk => hk
    · exact xgo_same hs fun _ _ hk => hk
    · exact hs.elim
  case ldc2_w =>
    unfold stp at hs; dsimp only at hs; split at hs
    · exact xgo_same hs fun _ _ hk => hk
    · exact hs.elim
  case goto =>
    unfold stp at hs; dsimp only at hs; split at hs
    · exact xgo_same hs fun _ _ hk => hk
    · exact hs.elim
  case ifCond c off =>
    unfold stp at hs; dsimp only at hs; split at hs
    · obtain ⟨x, r, rfl, hs⟩ := xi1_ex hs
      cases c <;> exact xgo_if hs fun _ _ hk => hk
    · exact hs.elim
  case if_icmp c off =>
    unfold stp at hs; dsimp only at hs; split at hs
    · obtain ⟨x, y, r, rfl, hs⟩ := xi2_ex hs
      cases c <;> exact xgo_if hs fun _ _ hk => hk
    · exact hs.elim
  case ifnonnull =>
    unfold stp at hs; dsimp only at hs; split at hs
    · split at hs
      · exact xgo_same hs fun _ _ hk => hk
      · exact xgo_same hs fun _ _ hk => hk
      · exact hs.elim
    · exact hs.elim
  case tableswitch d lo hi offs =>
    obtain ⟨x, r, rfl, hq⟩ := xi1_ex hs
    cases nf with
    | nil => exact False.elim hq
    | cons t ts =>
      by_cases hc : x.toInt - lo < 0
      · have hq : K t ls r h := by unfold xsw at hq; dsimp only at hq; rw [if_pos hc] at hq; exact hq
        refine xgo_same hq fun _ _ hk => ?_
        unfold stp xi1 xsw; dsimp only; rw [if_pos hc]; exact hk
      · have hq : match ts[(x.toInt - lo).toNat]? with
          | some t => K t ls r h
          | none => K t ls r h := by unfold xsw at hq; dsimp only at hq; rw [if_neg hc] at hq; exact hq
        cases e : ts[(x.toInt - lo).toNat]? with
        | none =>
          rw [e] at hq
          refine xgo_same hq fun _ _ hk => ?_
          unfold stp xi1 xsw; dsimp only; rw [if_neg hc, e]; exact hk
        | some t1 =>
          rw [e] at hq
          refine xgo_same hq fun _ _ hk => ?_
          unfold stp xi1 xsw; dsimp only; rw [if_neg hc, e]; exact hk
  case aload k =>
    unfold stp at hs; dsimp only at hs
    obtain ⟨v, e, hq, hv⟩ := xao_ex hs
    refine xgo_same hq fun K' Q' hk => ?_
    have hk : xao (some v) fun x => K' (pc + 2) ls (x :: st) h := by
      rcases hv with ⟨x, rfl⟩ | ⟨x, rfl⟩ <;> exact hk
    rw [← e] at hk
    unfold stp; exact hk
  case aload_n k =>
    unfold stp at hs; dsimp only at hs
    obtain ⟨v, e, hq, hv⟩ := xao_ex hs
    refine xgo_same hq fun K' Q' hk => ?_
    have hk : xao (some v) fun x => K' (pc + 1) ls (x :: st) h := by
      rcases hv with ⟨x, rfl⟩ | ⟨x, rfl⟩ <;> exact hk
    rw [← e] at hk
    unfold stp; exact hk
  case getfield =>
    unfold stp at hs; dsimp only at hs; split at hs
    · obtain ⟨a, r, rfl, hs⟩ := xr1_ex hs
      obtain ⟨fs, e, hs⟩ := xob_ex hs
      obtain ⟨v, e2, hs⟩ := xsm_ex hs
      exact xgo_same hs fun _ _ hk => by unfold stp xr1; dsimp only; rw [e]; unfold xob; dsimp only; rw [e2]; exact ⟨rfl, hk⟩
    · split at hs
      · split at hs
        · rename_i hk0
          exact xgo_same hs fun _ _ hk => by unfold stp; show (if _ = 0 then _ else _); rw [if_pos hk0]; exact hk
        · rename_i hk0
          exact xgo_same hs fun _ _ hk => by unfold stp; show (if _ = 0 then _ else _); rw [if_neg hk0]; exact hk
      · exact hs.elim
    · exact hs.elim
  case putfield =>
    unfold stp at hs; dsimp only at hs; split at hs
    · split at hs
      · obtain ⟨fs, e, h1, h2, hs⟩ := xob_ex hs
        exact xgo_set e hs fun _ _ hk => by unfold stp; dsimp only; rw [e]; exact ⟨rfl, h1, h2, hk⟩
      · exact hs.elim
    · exact hs.elim
  case getstatic =>
    unfold stp at hs; dsimp only at hs; split at hs
    · exact xgo_same hs fun _ _ hk => hk
    · exact xgo_same hs fun _ _ hk => hk
    · exact xgo_same hs fun _ _ hk => hk
    · exact hs.elim
  case new =>
    unfold stp at hs; dsimp only at hs; split at hs
    · exact xgo_new hs fun _ _ hk => hk
    · exact hs.elim
  case newarray =>
    unfold stp at hs; dsimp only at hs; split at hs
    · obtain ⟨x, r, rfl, h1, h2, hs⟩ := xi1_ex hs
      exact xgo_new hs fun _ _ hk => ⟨h1, h2, hk⟩
    · exact hs.elim
  case anewarray =>
    unfold stp at hs; dsimp only at hs; split at hs
    · obtain ⟨x, r, rfl, h1, h2, hs⟩ := xi1_ex hs
      exact xgo_new hs fun _ _ hk => ⟨h1, h2, hk⟩
    · exact hs.elim
  case iaload =>
    unfold stp at hs; dsimp only at hs; split at hs
    · obtain ⟨n, g, e, h1, hs⟩ := xar_ex hs
      exact xgo_same hs fun _ _ hk => by unfold stp; dsimp only; rw [e]; exact ⟨rfl, h1, hk⟩
    · exact xgo_same hs.2 fun _ _ hk => ⟨hs.1, hk⟩
    · exact xgo_same hs.2 fun _ _ hk => ⟨hs.1, hk⟩
    · exact hs.elim
  case baload =>
    unfold stp at hs; dsimp only at hs; split at hs
    · obtain ⟨n, g, e, h1, hs⟩ := xar_ex hs
      exact xgo_same hs fun _ _ hk => by unfold stp; dsimp only; rw [e]; exact ⟨rfl, h1, hk⟩
    · exact xgo_same hs.2 fun _ _ hk => ⟨hs.1, hk⟩
    · exact hs.elim
  case caload =>
    unfold stp at hs; dsimp only at hs; split at hs
    · obtain ⟨n, g, e, h1, hs⟩ := xar_ex hs
      exact xgo_same hs fun _ _ hk => by unfold stp; dsimp only; rw [e]; exact ⟨rfl, h1, hk⟩
    · exact hs.elim
  case aaload =>
    unfold stp at hs; dsimp only at hs; split at hs
    · obtain ⟨n, g, e, h1, hs⟩ := xaq_ex hs
      exact xgo_same hs fun _ _ hk => by unfold stp; dsimp only; rw [e]; exact ⟨rfl, h1, hk⟩
    · exact hs.elim
  case iastore =>
    unfold stp at hs; dsimp only at hs; split at hs
    · obtain ⟨n, g, e, h1, hs⟩ := xar_ex hs
      exact xgo_set e hs fun _ _ hk => by unfold stp; dsimp only; rw [e]; exact ⟨rfl, h1, hk⟩
    · exact hs.elim
  case bastore =>
    unfold stp at hs; dsimp only at hs; split at hs
    · obtain ⟨n, g, e, h1, hs⟩ := xar_ex hs
      exact xgo_set e hs fun _ _ hk => by unfold stp; dsimp only; rw [e]; exact ⟨rfl, h1, hk⟩
    · exact hs.elim
  case castore =>
    unfold stp at hs; dsimp only at hs; split at hs
    · obtain ⟨n, g, e, h1, hs⟩ := xar_ex hs
      exact xgo_set e hs fun _ _ hk => by unfold stp; dsimp only; rw [e]; exact ⟨rfl, h1, hk⟩
    · exact hs.elim
  case aastore =>
    unfold stp at hs; dsimp only at hs; split at hs
    · obtain ⟨n, g, e, h1, hs⟩ := xaq_ex hs
      obtain ⟨fs, e2, hs⟩ := xob_ex hs
      exact xgo_set e hs fun _ _ hk => by unfold stp; dsimp only; rw [e, e2]; exact ⟨rfl, h1, rfl, hk⟩
    · exact hs.elim
  case arraylength =>
    unfold stp at hs; dsimp only at hs; split at hs
    · exact xgo_same hs fun _ _ hk => hk
    · exact xgo_same hs fun _ _ hk => hk
    · exact xgo_same hs fun _ _ hk => hk
    · exact hs.elim
  case invokevirtual =>
    unfold stp at hs; dsimp only at hs; split at hs
    · obtain ⟨b, r, e, h1, h2, v, h3, hc, hs⟩ := xv1_ex hs
      exact xgo_call hc hs fun _ _ hk => by unfold stp; dsimp only; rw [e]; exact ⟨h1, h2, v, h3, hc, hk⟩
    · exact hs.elim
  case invokestatic =>
    unfold stp at hs; dsimp only at hs; split at hs
    · rename_i k _ _ _ _
      by_cases hk0 : k = 0
      · rw [if_pos hk0] at hs
        obtain ⟨x, y, r, rfl, h1, hq⟩ := xi2_ex hs
        exact xgo_same hq fun _ _ hk => by unfold stp; show (if _ = 0 then _ else _); rw [if_pos hk0]; exact ⟨h1, hk⟩
      · rw [if_neg hk0] at hs
        obtain ⟨x, r, rfl, h1, hq⟩ := xi1_ex hs
        exact xgo_same hq fun _ _ hk => by unfold stp; show (if _ = 0 then _ else _); rw [if_neg hk0]; exact ⟨h1, hk⟩
    · rename_i m2 n tl hne
      obtain ⟨h1, h2, v, h3, hc, hs⟩ := hs
      refine xgo_call hc hs fun K' Q' hk => ?_
      have hk : xcat (st.drop n) ≤ 8 ∧ n ≤ st.length ∧ ∃ v h1, C m2 (st.take n).reverse h v h1 ∧ K' (pc + 3) ls (v.toList ++ st.drop n) h1 := ⟨h1, h2, v, h3, hc, hk⟩
      match tl, hne with
      | [], _ => exact hk
      | [_], _ => exact hk
      | [_, _], _ => exact hk
      | [a, b, c], hne => exact (hne a b c rfl).elim
      | _ :: _ :: _ :: _ :: _, _ => exact hk
    · exact hs.elim
  case invokespecial =>
    unfold stp at hs; dsimp only at hs; split at hs
    · obtain ⟨x, r, rfl, h1, hs⟩ := xr1_ex hs
      exact xgo_same hs fun _ _ hk => ⟨h1, hk⟩
    · rename_i m2 n tl hne
      obtain ⟨b, r, e, h1, h3, hc, hs⟩ := xr1_ex hs
      refine xgo_call hc hs fun K' Q' hk => ?_
      have hk : xr1 (List.drop n st) fun b r => xcat r ≤ 8 ∧ ∃ h1, C m2 (Value.ref b :: (List.take n st).reverse) h none h1 ∧ K' (pc + 3) ls r h1 := by
        rw [e]; exact ⟨h1, h3, hc, hk⟩
      match tl, hne with
      | [], _ => exact hk
      | [_], _ => exact hk
      | [a, b], hne => exact (hne a b rfl).elim
      | _ :: _ :: _ :: _, _ => exact hk
    · exact hs.elim
  case ireturn =>
    unfold stp at hs; dsimp only at hs; split at hs
    · exact xgo_end hs.2 fun _ _ hk => ⟨hs.1, hk⟩
    · exact hs.elim
  case return_ =>
    unfold stp at hs; dsimp only at hs; split at hs
    · exact xgo_end hs.2 fun _ _ hk => ⟨hs.1, hk⟩
    · exact hs.elim
/-- what a method's run comes to -/
theorem RUN_ex {X : Nat × (Nat → Int32)} {C : Nat → List Value → xHp → Option Value → xHp → Prop} {m : Nat} {Q : Option Value → xHp → Prop} {pc : Nat} {ls st : List Value} {h : xHp} (hr : RUN X C m Q pc ls st h) : ∃ v h', Q v h' ∧ RUN X C m (fun v1 h1 => v1 = v ∧ h1 = h') pc ls st h := by
  refine hr (fun pc ls st h => ∃ v h', Q v h' ∧ RUN X C m (fun v1 h1 => v1 = v ∧ h1 = h') pc ls st h) fun pc ls st h hs => ?_
  unfold xstep at hs
  split at hs
  · rename_i i nf e
    rcases stp_out hs with ⟨pc', ls', st', h2, ⟨v, h', hq, hk⟩, -, f⟩ | ⟨v, hq, f⟩
    · exact ⟨v, h', hq, RUN_of (by unfold xstep; rw [e]; exact f _ _ hk)⟩
    · exact ⟨v, h, hq, RUN_of (by unfold xstep; rw [e]; exact f _ _ ⟨rfl, rfl⟩)⟩
  · exact hs.elim
/-- method m, called with args over the cells h, comes to an answer and cells of which Post holds -/
def EVP (X : Nat × (Nat → Int32)) (d m : Nat) (args : List Value) (h : xHp) (Post : Option Value → xHp → Prop) : Prop := ∃ v h', EV X d m args h v h' ∧ Post v h'
theorem EVP_of {X : Nat × (Nat → Int32)} {d m : Nat} {args : List Value} {h : xHp} {Post : Option Value → xHp → Prop} (hl : (xarg args).length ≤ xml m) (hr : RUN X (EV X d) m Post 0 (xini m args) [] h) : EVP X (d + 1) m args h Post := by
  obtain ⟨v, h', hq, hr⟩ := RUN_ex hr
  exact ⟨v, h', ⟨hl, hr⟩, hq⟩
theorem xWF_rel {C : Nat → List Value → xHp → Option Value → xHp → Prop} (hC : ∀ m av h v h', C m av h v h' → h.1 ≤ h'.1 ∧ h.2.1 ≤ h'.2.1 ∧ (xWF h → xWF h')) {h h2 : xHp} (hr : xrel C h h2) : h.1 ≤ h2.1 ∧ h.2.1 ≤ h2.2.1 ∧ (xWF h → xWF h2) := by
  rcases hr with rfl | ⟨a, c, c0, e, rfl⟩ | ⟨k, c, rfl⟩ | ⟨m2, av, v, hc⟩
  · exact ⟨Nat.le_refl _, Nat.le_refl _, id⟩
  · exact ⟨Nat.le_refl _, Nat.le_refl _, fun hw => xWF_set hw e⟩
  · exact ⟨Nat.le_succ _, Nat.le_add_right _ _, fun hw => xWF_new hw⟩
  · exact hC _ _ _ _ _ hc
/-- cells only come, and stand well -/
theorem EV_grows (X : Nat × (Nat → Int32)) : ∀ (d m : Nat) (av : List Value) (h : xHp) (v : Option Value) (h' : xHp), EV X d m av h v h' → h.1 ≤ h'.1 ∧ h.2.1 ≤ h'.2.1 ∧ (xWF h → xWF h')
  | 0, _, _, _, _, _, he => he.elim
  | d + 1, m, av, h, v, h', he => by
    have ih := EV_grows X d
    refine he.2 (fun _ _ _ h => h.1 ≤ h'.1 ∧ h.2.1 ≤ h'.2.1 ∧ (xWF h → xWF h')) fun pc ls st h hs => ?_
    unfold xstep at hs
    split at hs
    · rcases stp_out hs with ⟨pc', ls', st', h2, hk, hr, -⟩ | ⟨v1, ⟨-, rfl⟩, -⟩
      · obtain ⟨a1, a2, a3⟩ := xWF_rel ih hr
        obtain ⟨b1, b2, b3⟩ := hk
        exact ⟨Nat.le_trans a1 b1, Nat.le_trans a2 b2, fun hw => b3 (a3 hw)⟩
      · exact ⟨Nat.le_refl _, Nat.le_refl _, id⟩
    · exact hs.elim
