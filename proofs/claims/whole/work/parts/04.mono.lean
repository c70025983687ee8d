theorem xi1_mono {st : List Value} {f g : Int32 → List Value → Prop} (h : xi1 st f) (k : ∀ x r, f x r → g x r) : xi1 st g := by
  unfold xi1 at *; split at h
  · exact k _ _ h
  · exact h.elim
theorem xi2_mono {st : List Value} {f g : Int32 → Int32 → List Value → Prop} (h : xi2 st f) (k : ∀ x y r, f x y r → g x y r) : xi2 st g := by
  unfold xi2 at *; split at h
  · exact k _ _ _ h
  · exact h.elim
theorem xl1_mono {st : List Value} {f g : Int64 → List Value → Prop} (h : xl1 st f) (k : ∀ x r, f x r → g x r) : xl1 st g := by
  unfold xl1 at *; split at h
  · exact k _ _ h
  · exact h.elim
theorem xl2_mono {st : List Value} {f g : Int64 → Int64 → List Value → Prop} (h : xl2 st f) (k : ∀ x y r, f x y r → g x y r) : xl2 st g := by
  unfold xl2 at *; split at h
  · exact k _ _ _ h
  · exact h.elim
theorem xr1_mono {st : List Value} {f g : Nat → List Value → Prop} (h : xr1 st f) (k : ∀ x r, f x r → g x r) : xr1 st g := by
  unfold xr1 at *; split at h
  · exact k _ _ h
  · exact h.elim
theorem xv1_mono {st : List Value} {f g : Value → List Value → Prop} (h : xv1 st f) (k : ∀ x r, f x r → g x r) : xv1 st g := by
  unfold xv1 at *; split at h
  · exact k _ _ h
  · exact h.elim
theorem xio_mono {o : Option Value} {f g : Int32 → Prop} (h : xio o f) (k : ∀ x, f x → g x) : xio o g := by
  unfold xio at *; split at h
  · exact k _ h
  · exact h.elim
theorem xlo_mono {o : Option Value} {f g : Int64 → Prop} (h : xlo o f) (k : ∀ x, f x → g x) : xlo o g := by
  unfold xlo at *; split at h
  · exact k _ h
  · exact h.elim
theorem xao_mono {o : Option Value} {f g : Value → Prop} (h : xao o f) (k : ∀ x, f x → g x) : xao o g := by
  unfold xao at *; split at h
  · exact k _ h
  · exact k _ h
  · exact h.elim
theorem xsm_mono {o : Option Value} {f g : Value → Prop} (h : xsm o f) (k : ∀ x, f x → g x) : xsm o g := by
  unfold xsm at *; split at h
  · exact k _ h
  · exact h.elim
theorem xob_mono {c : Option xC} {ci : Nat} {f g : List Value → Prop} (h : xob c ci f) (k : ∀ x, f x → g x) : xob c ci g := by
  unfold xob at *; split at h
  · exact ⟨h.1, k _ h.2⟩
  · exact h.elim
theorem xar_mono {c : Option xC} {t : Nat} {f g : Nat → (Nat → Int32) → Prop} (h : xar c t f) (k : ∀ x y, f x y → g x y) : xar c t g := by
  unfold xar at *; split at h
  · exact ⟨h.1, k _ _ h.2⟩
  · exact h.elim
theorem xaq_mono {c : Option xC} {f g : Nat → (Nat → Option Nat) → Prop} (h : xaq c f) (k : ∀ x y, f x y → g x y) : xaq c g := by
  unfold xaq at *; split at h
  · exact ⟨h.1, k _ _ h.2⟩
  · exact h.elim
theorem xal_mono {c : Option xC} {f g : Nat → Prop} (h : xal c f) (k : ∀ x, f x → g x) : xal c g := by
  unfold xal at *; split at h
  · exact k _ h
  · exact h.elim
theorem xsw_mono {ts : List Nat} {j : Int} {f g : Nat → Prop} (h : xsw ts j f) (k : ∀ x, f x → g x) : xsw ts j g := by
  unfold xsw at *; split at h
  · exact h.elim
  · split at h
    · rename_i hj; rw [if_pos hj]; exact k _ h
    · rename_i hj; rw [if_neg hj]
      split at h
      · exact k _ h
      · exact k _ h
theorem xif_mono {c : Prop} [Decidable c] {A B A' B' : Prop} (h : if c then A else B) (a : A → A') (b : B → B') : if c then A' else B' := by
  by_cases hc : c
  · rw [if_pos hc] at *; exact a h
  · rw [if_neg hc] at *; exact b h
set_option maxHeartbeats 1000000 in
theorem stp_mono {X : Nat × (Nat → Int32)} {C : Nat → List Value → xHp → Option Value → xHp → Prop} {m : Nat} {i : Instr} {nf : List Nat} {pc : Nat} {ls st : List Value} {h : xHp} {K K' : Nat → List Value → List Value → xHp → Prop} {Q : Option Value → xHp → Prop} (hK : ∀ pc ls st h, K pc ls st h → K' pc ls st h) (hs : stp X C m i nf pc ls st h K Q) : stp X C m i nf pc ls st h K' Q := by
  cases i
  all_goals first
    | exact hK _ _ _ _ hs
    | exact xi2_mono hs fun _ _ _ h => hK _ _ _ _ h
    | exact xi1_mono hs fun _ _ h => hK _ _ _ _ h
    | exact xl2_mono hs fun _ _ _ h => hK _ _ _ _ h
    | exact xl1_mono hs fun _ _ h => hK _ _ _ _ h
    | exact xio_mono hs fun _ h => hK _ _ _ _ h
    | exact xlo_mono hs fun _ h => hK _ _ _ _ h
    | exact xao_mono hs fun _ h => hK _ _ _ _ h
    | exact xi1_mono hs fun _ _ h => ⟨h.1, h.2.1, hK _ _ _ _ h.2.2⟩
    | exact xl1_mono hs fun _ _ h => ⟨h.1, h.2.1, hK _ _ _ _ h.2.2⟩
    | exact xr1_mono hs fun _ _ h => ⟨h.1, h.2.1, hK _ _ _ _ h.2.2⟩
    | exact xio_mono hs fun _ h => ⟨h.1, hK _ _ _ _ h.2⟩
    | exact xi2_mono hs fun _ _ _ h => ⟨h.1, hK _ _ _ _ h.2⟩
    | exact xl2_mono hs fun _ _ _ h => ⟨h.1, hK _ _ _ _ h.2⟩
    | exact xv1_mono hs fun _ _ h => ⟨h.1, hK _ _ _ _ h.2⟩
    | exact xi1_mono hs fun _ _ h => xsw_mono h fun _ h => hK _ _ _ _ h
    | (unfold stp at hs ⊢; dsimp only at hs ⊢; split at hs
       · exact ⟨hs.1, hs.2.1, hK _ _ _ _ hs.2.2⟩
       · exact hs.elim)
    | (unfold stp at hs ⊢; dsimp only at hs ⊢; split at hs
       · exact xi1_mono hs fun _ _ h => by split at h <;> exact xif_mono h (hK _ _ _ _) (hK _ _ _ _)
       · exact hs.elim)
    | (unfold stp at hs ⊢; dsimp only at hs ⊢; split at hs
       · exact xi2_mono hs fun _ _ _ h => by split at h <;> exact xif_mono h (hK _ _ _ _) (hK _ _ _ _)
       · exact hs.elim)
    | (unfold stp at hs ⊢; dsimp only at hs ⊢; split at hs
       · exact hK _ _ _ _ hs
       · exact hs.elim)
    | (unfold stp at hs ⊢; dsimp only at hs ⊢; split at hs
       · exact hK _ _ _ _ hs
       · exact hK _ _ _ _ hs
       · exact hs.elim)
    | (unfold stp at hs ⊢; dsimp only at hs ⊢; split at hs
       · exact hK _ _ _ _ hs
       · exact hK _ _ _ _ hs
       · exact hK _ _ _ _ hs
       · exact hs.elim)
    | (unfold stp at hs ⊢; dsimp only at hs ⊢; split at hs
       · exact xi1_mono hs fun _ _ h => ⟨h.1, h.2.1, hK _ _ _ _ h.2.2⟩
       · exact hs.elim)
    | (unfold stp at hs ⊢; dsimp only at hs ⊢; split at hs
       · exact xar_mono hs fun _ _ h => ⟨h.1, hK _ _ _ _ h.2⟩
       · exact hs.elim)
    | (unfold stp at hs ⊢; dsimp only at hs ⊢; split at hs
       · exact xaq_mono hs fun _ _ h => ⟨h.1, hK _ _ _ _ h.2⟩
       · exact hs.elim)
    | (unfold stp at hs ⊢; dsimp only at hs ⊢; split at hs
       · exact xaq_mono hs fun _ _ h => ⟨h.1, xob_mono h.2 fun _ h => hK _ _ _ _ h⟩
       · exact hs.elim)
    | (unfold stp at hs ⊢; dsimp only at hs ⊢; split at hs
       · exact xar_mono hs fun _ _ h => ⟨h.1, hK _ _ _ _ h.2⟩
       · exact ⟨hs.1, hK _ _ _ _ hs.2⟩
       · exact hs.elim)
    | (unfold stp at hs ⊢; dsimp only at hs ⊢; split at hs
       · exact xar_mono hs fun _ _ h => ⟨h.1, hK _ _ _ _ h.2⟩
       · exact ⟨hs.1, hK _ _ _ _ hs.2⟩
       · exact ⟨hs.1, hK _ _ _ _ hs.2⟩
       · exact hs.elim)
    | (unfold stp at hs ⊢; dsimp only at hs ⊢; split at hs
       · exact xal_mono hs fun _ h => hK _ _ _ _ h
       · exact hK _ _ _ _ hs
       · exact hK _ _ _ _ hs
       · exact hs.elim)
    | (unfold stp at hs ⊢; dsimp only at hs ⊢; split at hs
       · split at hs
         · exact hK _ _ _ _ hs
         · exact hK _ _ _ _ hs
         · exact hs.elim
       · exact hs.elim)
    | (unfold stp at hs ⊢; dsimp only at hs ⊢; split at hs
       · split at hs
         · exact xob_mono hs fun _ h => ⟨h.1, h.2.1, hK _ _ _ _ h.2.2⟩
         · exact hs.elim
       · exact hs.elim)
    | (unfold stp at hs ⊢; dsimp only at hs ⊢; split at hs
       · exact xr1_mono hs fun _ _ h => xob_mono h fun _ h => xsm_mono h fun _ h => hK _ _ _ _ h
       · split at hs
         · exact xif_mono hs (hK _ _ _ _) (hK _ _ _ _)
         · exact hs.elim
       · exact hs.elim)
    | (unfold stp at hs ⊢; dsimp only at hs ⊢; split at hs
       · exact xv1_mono hs fun _ _ h => ⟨h.1, h.2.1, by obtain ⟨-, -, v, h1, a, b⟩ := h; exact ⟨v, h1, a, hK _ _ _ _ b⟩⟩
       · exact hs.elim)
    | (unfold stp at hs ⊢; dsimp only at hs ⊢; split at hs
       · exact xif_mono hs (fun hs => xi2_mono hs fun _ _ _ h => ⟨h.1, hK _ _ _ _ h.2⟩) (fun hs => xi1_mono hs fun _ _ h => ⟨h.1, hK _ _ _ _ h.2⟩)
       · exact ⟨hs.1, hs.2.1, by obtain ⟨-, -, v, h1, a, b⟩ := hs; exact ⟨v, h1, a, hK _ _ _ _ b⟩⟩
       · exact hs.elim)
    | (unfold stp at hs ⊢; dsimp only at hs ⊢; split at hs
       · exact xr1_mono hs fun _ _ h => ⟨h.1, hK _ _ _ _ h.2⟩
       · exact xr1_mono hs fun _ _ h => ⟨h.1, by obtain ⟨-, h1, a, b⟩ := h; exact ⟨h1, a, hK _ _ _ _ b⟩⟩
       · exact hs.elim)
    | exact hs
    | (unfold stp at hs ⊢; exact xao_mono hs (fun x h2 => hK _ _ _ _ h2))
theorem xstep_mono {X : Nat × (Nat → Int32)} {C : Nat → List Value → xHp → Option Value → xHp → Prop} {m : Nat} {Q : Option Value → xHp → Prop} {P P' : Nat → List Value → List Value → xHp → Prop} {pc : Nat} {ls st : List Value} {h : xHp} (hK : ∀ pc ls st h, P pc ls st h → P' pc ls st h) (hs : xstep X C m Q P pc ls st h) : xstep X C m Q P' pc ls st h := by
  unfold xstep at *
  split at hs
  · exact stp_mono hK hs
  · exact hs.elim
theorem RUN_of {X : Nat × (Nat → Int32)} {C : Nat → List Value → xHp → Option Value → xHp → Prop} {m : Nat} {Q : Option Value → xHp → Prop} {pc : Nat} {ls st : List Value} {h : xHp} (hs : xstep X C m Q (RUN X C m Q) pc ls st h) : RUN X C m Q pc ls st h :=
  fun P hP => hP _ _ _ _ (xstep_mono (fun _ _ _ _ hr => hr P hP) hs)
theorem RUN_to {X : Nat × (Nat → Int32)} {C : Nat → List Value → xHp → Option Value → xHp → Prop} {m : Nat} {Q : Option Value → xHp → Prop} {pc : Nat} {ls st : List Value} {h : xHp} (hr : RUN X C m Q pc ls st h) : xstep X C m Q (RUN X C m Q) pc ls st h :=
  hr _ fun _ _ _ _ hs => xstep_mono (fun _ _ _ _ h => RUN_of h) hs
theorem RUN_iff {X : Nat × (Nat → Int32)} {C : Nat → List Value → xHp → Option Value → xHp → Prop} {m : Nat} {Q : Option Value → xHp → Prop} {pc : Nat} {ls st : List Value} {h : xHp} {i : Instr} {nf : List Nat} (hc : xCD m pc = some (i, nf)) : RUN X C m Q pc ls st h ↔ stp X C m i nf pc ls st h (RUN X C m Q) Q := by
  have e : xstep X C m Q (RUN X C m Q) pc ls st h = stp X C m i nf pc ls st h (RUN X C m Q) Q := by unfold xstep; rw [hc]
  rw [← e]
  exact ⟨RUN_to, RUN_of⟩
