/-! Each row of the tables is a step of the machine; so is each run. -/
section XS4
variable {p : Program} {l : Launch} {e : Env} {R : Room} {s : State} {mI : MethodId} {args : Array Value} {below : List Frame} {meth : Method} {c : Code} {D : va_G} {tc : Nat → ClassId} {E : Nat → Nat} {X : Nat × (Nat → Int32)} {base m d : Nat} {h0 hf : xHp} {Q : State → Prop}
variable {pc : Nat} {ls st : List Value} {h : xHp}
theorem okt_ex {pc : Nat} {off : Int} {t : Nat} (h : okt pc off [t] = true) : (pc : Int) + off = (t : Int) := of_decide_eq_true h
set_option maxHeartbeats 2000000 in
theorem xstep_go {Qx : Option Value → xHp → Prop} (hC : xCl l D tc E X base d) (Z : xCtx p R s mI args meth c D tc E X base m d h0 hf)
    (hE1 : ∀ (pc : Nat) (ls : List Value) (x : Int32) (h : xHp), decode (xmb m) pc = .ok (.ireturn, 1) → xrt m x → Qx (some (.int x)) h → xZ p l e R s mI args below meth c D tc E base m h0 hf Q pc ls [.int x] h)
    (hE2 : ∀ (pc : Nat) (ls : List Value) (h : xHp), decode (xmb m) pc = .ok (.return_, 1) → xmr m = none → Qx none h → xZ p l e R s mI args below meth c D tc E base m h0 hf Q pc ls [] h)
    (hs : xstep X (EV X d) m Qx (xZ p l e R s mI args below meth c D tc E base m h0 hf Q) pc ls st h) : xZ p l e R s mI args below meth c D tc E base m h0 hf Q pc ls st h := by
  unfold xstep at hs
  split at hs
  case h_2 => exact hs.elim
  rename_i i nf he
  have hk := xCD_chk he
  unfold chk at hk
  rw [Bool.and_eq_true] at hk
  obtain ⟨hd0, hk⟩ := hk
  obtain ⟨len, hd0, hlen⟩ := okd_of hd0
  have hd : ilen i ≠ 0 → decode (xmb m) pc = .ok (i, ilen i) := fun z => by
    rcases hlen with hn | rfl
    · exact absurd hn z
    · exact hd0
  clear he
  cases i
  all_goals first
    | exact False.elim hs
    | skip
  case iconst n => exact xs_iconst Z (hd (Nat.succ_ne_zero _)) hs
  case bipush n => exact xs_bipush Z (hd (Nat.succ_ne_zero _)) hs
  case sipush n => exact xs_sipush Z (hd (Nat.succ_ne_zero _)) hs
  case lconst n => exact xs_lconst Z (hd (Nat.succ_ne_zero _)) hs
  case iload n => exact xs_iload Z (hd (Nat.succ_ne_zero _)) hs
  case iload_n n => exact xs_iload_n Z (hd (Nat.succ_ne_zero _)) hs
  case lload n => exact xs_lload Z (hd (Nat.succ_ne_zero _)) hs
  case lload_n n => exact xs_lload_n Z (hd (Nat.succ_ne_zero _)) hs
  case aload n => exact xs_aload Z (hd (Nat.succ_ne_zero _)) (by unfold stp at hs; exact hs)
  case aload_n n => exact xs_aload_n Z (hd (Nat.succ_ne_zero _)) (by unfold stp at hs; exact hs)
  case istore n => exact xs_istore Z (hd (Nat.succ_ne_zero _)) hs
  case istore_n n => exact xs_istore_n Z (hd (Nat.succ_ne_zero _)) hs
  case lstore n => exact xs_lstore Z (hd (Nat.succ_ne_zero _)) hs
  case lstore_n n => exact xs_lstore_n Z (hd (Nat.succ_ne_zero _)) hs
  case astore n => exact xs_astore Z (hd (Nat.succ_ne_zero _)) hs
  case astore_n n => exact xs_astore_n Z (hd (Nat.succ_ne_zero _)) hs
  case iinc k n => exact xs_iinc Z (hd (Nat.succ_ne_zero _)) hs
  case iadd => exact xs_iadd Z (hd (Nat.succ_ne_zero _)) hs
  case isub => exact xs_isub Z (hd (Nat.succ_ne_zero _)) hs
  case imul => exact xs_imul Z (hd (Nat.succ_ne_zero _)) hs
  case iand => exact xs_iand Z (hd (Nat.succ_ne_zero _)) hs
  case ior => exact xs_ior Z (hd (Nat.succ_ne_zero _)) hs
  case idiv => exact xs_idiv Z (hd (Nat.succ_ne_zero _)) hs
  case irem => exact xs_irem Z (hd (Nat.succ_ne_zero _)) hs
  case ineg => exact xs_ineg Z (hd (Nat.succ_ne_zero _)) hs
  case ishl => exact xs_ishl Z (hd (Nat.succ_ne_zero _)) hs
  case ishr => exact xs_ishr Z (hd (Nat.succ_ne_zero _)) hs
  case ladd => exact xs_ladd Z (hd (Nat.succ_ne_zero _)) hs
  case lmul => exact xs_lmul Z (hd (Nat.succ_ne_zero _)) hs
  case ldiv => exact xs_ldiv Z (hd (Nat.succ_ne_zero _)) hs
  case lrem => exact xs_lrem Z (hd (Nat.succ_ne_zero _)) hs
  case lcmp => exact xs_lcmp Z (hd (Nat.succ_ne_zero _)) hs
  case i2l => exact xs_i2l Z (hd (Nat.succ_ne_zero _)) hs
  case l2i => exact xs_l2i Z (hd (Nat.succ_ne_zero _)) hs
  case i2c => exact xs_i2c Z (hd (Nat.succ_ne_zero _)) hs
  case dup => exact xs_dup Z (hd (Nat.succ_ne_zero _)) hs
  case pop => exact xs_pop Z (hd (Nat.succ_ne_zero _)) hs
  case dup2 =>
    unfold stp at hs; dsimp only at hs; split at hs
    · exact xs_dup2 Z (hd (Nat.succ_ne_zero _)) hs.1 hs.2.1 hs.2.2
    · exact hs.elim
  case ifCond cc off _ =>
    unfold stp at hs; dsimp only at hs; split at hs
    · have ht := okt_ex hk
      cases cc
      · exact xs_ifCond_eq ht Z (hd (Nat.succ_ne_zero _)) hs
      · exact xs_ifCond_ne ht Z (hd (Nat.succ_ne_zero _)) hs
      · exact xs_ifCond_lt ht Z (hd (Nat.succ_ne_zero _)) hs
      · exact xs_ifCond_ge ht Z (hd (Nat.succ_ne_zero _)) hs
      · exact xs_ifCond_gt ht Z (hd (Nat.succ_ne_zero _)) hs
      · exact xs_ifCond_le ht Z (hd (Nat.succ_ne_zero _)) hs
    · exact hs.elim
  case if_icmp cc off _ =>
    unfold stp at hs; dsimp only at hs; split at hs
    · have ht := okt_ex hk
      cases cc
      · exact xs_if_icmp_eq ht Z (hd (Nat.succ_ne_zero _)) hs
      · exact xs_if_icmp_ne ht Z (hd (Nat.succ_ne_zero _)) hs
      · exact xs_if_icmp_lt ht Z (hd (Nat.succ_ne_zero _)) hs
      · exact xs_if_icmp_ge ht Z (hd (Nat.succ_ne_zero _)) hs
      · exact xs_if_icmp_gt ht Z (hd (Nat.succ_ne_zero _)) hs
      · exact xs_if_icmp_le ht Z (hd (Nat.succ_ne_zero _)) hs
    · exact hs.elim
  case goto off =>
    unfold stp at hs; dsimp only at hs; split at hs
    · exact xs_goto (okt_ex hk) Z (hd (Nat.succ_ne_zero _)) hs
    · exact hs.elim
  case ifnonnull off =>
    unfold stp at hs; dsimp only at hs; split at hs
    · have ht := okt_ex hk
      split at hs
      · exact xs_nonnull1 Z ht (hd (Nat.succ_ne_zero _)) hs
      · exact xs_nonnull0 Z (hd (Nat.succ_ne_zero _)) hs
      · exact hs.elim
    · exact hs.elim
  case tableswitch dflt lo hi offs =>
    cases nf with
    | nil => cases hk
    | cons t ts =>
      dsimp only at hk
      simp only [Bool.and_eq_true, decide_eq_true_eq] at hk
      exact xs_table Z hd0 hk.1.1 hk.1.2 hk.2 hs
  case getfield idx =>
    unfold stp at hs; dsimp only at hs; split at hs
    · exact xs_getfield Z (hd (Nat.succ_ne_zero _)) hk hs
    · split at hs
      · exact xs_getstr Z (hd (Nat.succ_ne_zero _)) hk hs
      · exact hs.elim
    · exact hs.elim
  case putfield idx =>
    unfold stp at hs; dsimp only at hs; split at hs
    · split at hs
      · dsimp only at hk
        rw [Bool.and_eq_true] at hk
        exact xs_putfield Z (hd (Nat.succ_ne_zero _)) hk.1 hk.2 hs
      · exact hs.elim
    · exact hs.elim
  case getstatic idx =>
    unfold stp at hs; dsimp only at hs; split at hs
    · exact xs_gets0 Z (hd (Nat.succ_ne_zero _)) hk hs
    · exact xs_gets1 Z (hd (Nat.succ_ne_zero _)) hk hs
    · exact xs_gets2 Z (hd (Nat.succ_ne_zero _)) hk hs
    · exact hs.elim
  case new idx =>
    unfold stp at hs; dsimp only at hs; split at hs
    · exact xs_new Z (hd (Nat.succ_ne_zero _)) hk hs
    · exact hs.elim
  case newarray aty =>
    unfold stp at hs; dsimp only at hs; split at hs
    · dsimp only at hk
      rw [Bool.and_eq_true] at hk
      exact xs_newarray Z (hd (Nat.succ_ne_zero _)) (of_decide_eq_true hk.1) hk.2 hs
    · exact hs.elim
  case anewarray idx =>
    unfold stp at hs; dsimp only at hs; split at hs
    · rename_i a b
      by_cases ha : a = 3
      · subst ha
        exact xs_anewarray Z (hd (Nat.succ_ne_zero _)) hk hs
      · split at hk
        all_goals first
          | exact (Bool.false_ne_true hk).elim
          | (rename_i e1 e2; cases e1; done)
          | skip
        all_goals simp_all
    · exact hs.elim
  case ldc =>
    rcases nf with _ | ⟨a, _ | ⟨b, _ | ⟨w, _ | ⟨zz, zt⟩⟩⟩⟩
    · exact False.elim hs
    · exact False.elim hs
    · match a, hk with
      | 0, hk =>
        simp only [Bool.and_eq_true, decide_eq_true_eq] at hk
        obtain ⟨hk1, hk2⟩ := hk
        have hd1 := hd (Nat.succ_ne_zero _)
        rw [hk1] at hd1
        exact xs_ldcS Z hd1 hk2 hs
      | 1, hk => exact (Bool.false_ne_true hk).elim
      | n + 2, hk => exact (Bool.false_ne_true hk).elim
    · match a, hk with
      | 0, hk => exact (Bool.false_ne_true hk).elim
      | 1, hk => exact xs_ldc Z (hd (Nat.succ_ne_zero _)) hk hs
      | n + 2, hk => exact (Bool.false_ne_true hk).elim
    · exact False.elim hs
  case ldc2_w idx =>
    unfold stp at hs; dsimp only at hs; split at hs
    · exact xs_ldc2 Z (hd (Nat.succ_ne_zero _)) hk hs
    · exact hs.elim
  case iaload =>
    unfold stp at hs; dsimp only at hs; split at hs
    · exact xs_arrload Z (hd (Nat.succ_ne_zero _)) (Or.inl ⟨rfl, rfl⟩) hs
    · exact xs_iald2 Z (hd (Nat.succ_ne_zero _)) hs
    · exact xs_iald4 Z (hd (Nat.succ_ne_zero _)) hs
    · exact hs.elim
  case caload =>
    unfold stp at hs; dsimp only at hs; split at hs
    · exact xs_arrload Z (hd (Nat.succ_ne_zero _)) (Or.inr (Or.inl ⟨rfl, rfl⟩)) hs
    · exact hs.elim
  case baload =>
    unfold stp at hs; dsimp only at hs; split at hs
    · exact xs_arrload Z (hd (Nat.succ_ne_zero _)) (Or.inr (Or.inr ⟨rfl, rfl⟩)) hs
    · exact xs_bald1 Z (hd (Nat.succ_ne_zero _)) hs
    · exact hs.elim
  case aaload =>
    unfold stp at hs; dsimp only at hs; split at hs
    · exact xs_aald Z (hd (Nat.succ_ne_zero _)) hs
    · exact hs.elim
  case iastore =>
    unfold stp at hs; dsimp only at hs; split at hs
    · exact xs_arrstore (ty := .int) Z (hd (Nat.succ_ne_zero _)) (Or.inl ⟨rfl, rfl, rfl⟩) hs
    · exact hs.elim
  case castore =>
    unfold stp at hs; dsimp only at hs; split at hs
    · exact xs_arrstore (ty := .char) Z (hd (Nat.succ_ne_zero _)) (Or.inr (Or.inl ⟨rfl, rfl, rfl⟩)) hs
    · exact hs.elim
  case bastore =>
    unfold stp at hs; dsimp only at hs; split at hs
    · exact xs_arrstore (ty := .boolean) Z (hd (Nat.succ_ne_zero _)) (Or.inr (Or.inr ⟨rfl, rfl, rfl⟩)) hs
    · exact hs.elim
  case aastore =>
    unfold stp at hs; dsimp only at hs; split at hs
    · exact xs_aast Z (hd (Nat.succ_ne_zero _)) hs
    · exact hs.elim
  case arraylength =>
    unfold stp at hs; dsimp only at hs; split at hs
    · exact xs_alen1 Z (hd (Nat.succ_ne_zero _)) hs
    · exact xs_alen2 Z (hd (Nat.succ_ne_zero _)) hs
    · exact xs_alen4 Z (hd (Nat.succ_ne_zero _)) hs
    · exact hs.elim
  case invokevirtual idx =>
    rcases nf with _ | ⟨m2, _ | ⟨n, _ | ⟨nest, _ | ⟨wl, _ | ⟨wi, _ | ⟨wini, _ | ⟨wcode, _ | ⟨wsel, _ | ⟨zz, zt⟩⟩⟩⟩⟩⟩⟩⟩⟩
    all_goals first
      | exact (Bool.false_ne_true hk).elim
      | skip
    dsimp only at hk
    rw [Bool.and_eq_true, Bool.and_eq_true, Bool.and_eq_true, Bool.and_eq_true] at hk
    obtain ⟨⟨⟨⟨a2, a3⟩, a4⟩, a5⟩, a6⟩ := hk
    exact xs_virtual hC Z (hd (Nat.succ_ne_zero _)) a2 a3 a4 a5 a6 hs
  case invokestatic idx =>
    rcases nf with _ | ⟨m2, _ | ⟨n, _ | ⟨nest, _ | ⟨wl, _ | ⟨wi, _ | ⟨wini, _ | ⟨wcode, _ | ⟨zz, zt⟩⟩⟩⟩⟩⟩⟩⟩
    all_goals first
      | exact False.elim hs
      | exact (List.cons_ne_nil _ _ (of_decide_eq_true hk)).elim
      | skip
    · dsimp only at hk
      unfold stp at hs
      dsimp only at hs
      split at hs
      · rename_i h0; rw [if_pos h0] at hk; exact xs_max Z (hd (Nat.succ_ne_zero _)) hk hs
      · rename_i h0; rw [if_neg h0] at hk; exact xs_abs Z (hd (Nat.succ_ne_zero _)) hk hs
    dsimp only at hk
    rw [Bool.and_eq_true, Bool.and_eq_true] at hk
    exact xs_static hC Z (hd (Nat.succ_ne_zero _)) hk.1.1 hk.1.2 hk.2 hs
  case invokespecial idx =>
    rcases nf with _ | ⟨m2, _ | ⟨n, _ | ⟨nest, _ | ⟨wl, _ | ⟨wi, _ | ⟨wini, _ | ⟨wcode, _ | ⟨zz, zt⟩⟩⟩⟩⟩⟩⟩⟩
    all_goals first
      | exact False.elim hs
      | exact (List.cons_ne_nil _ _ (of_decide_eq_true hk)).elim
      | skip
    · dsimp only at hk
      rw [Bool.and_eq_true, Bool.and_eq_true] at hk
      exact xs_obj Z (hd (Nat.succ_ne_zero _)) hk.1.1 hk.1.2 hk.2 hs
    · dsimp only at hk
      rw [Bool.and_eq_true, Bool.and_eq_true, Bool.and_eq_true, Bool.and_eq_true] at hk
      obtain ⟨⟨⟨⟨a1, a2⟩, a3⟩, a4⟩, a5⟩ := hk
      exact xs_init hC Z (hd (Nat.succ_ne_zero _)) a1 a2 a3 (of_decide_eq_true a4) (of_decide_eq_true a5) hs
  case ireturn =>
    unfold stp at hs; dsimp only at hs; split at hs
    · exact hE1 _ _ _ _ (hd (Nat.succ_ne_zero _)) hs.1 hs.2
    · exact hs.elim
  case return_ =>
    unfold stp at hs; dsimp only at hs; split at hs
    · exact hE2 _ _ _ (hd (Nat.succ_ne_zero _)) hs.1 hs.2
    · exact hs.elim
end XS4
theorem xmN_plain : ((List.range 171).all fun m => (xMT.getD m []).isEmpty || plainName (xmn m).cls) = true := by decide +kernel
theorem xmn_plain {m : Nat} (h : xMT.getD m [] ≠ []) : plainName (xmn m).cls = true := by
  by_cases hm : m < 171
  · have := List.all_eq_true.mp xmN_plain m (List.mem_range.mpr hm)
    rcases Bool.or_eq_true _ _ ▸ this with h1 | h1
    · exact absurd (List.isEmpty_iff.mp h1) h
    · exact h1
  · refine absurd ?_ h
    rw [List.getD_eq_getElem?_getD, List.getElem?_eq_none (by show (171 : Nat) ≤ m; omega)]
    rfl
theorem EV_rows {X : Nat × (Nat → Int32)} {d m : Nat} {av : List Value} {h : xHp} {v : Option Value} {h' : xHp} (he : EV X (d + 1) m av h v h') : xMT.getD m [] ≠ [] := by
  intro hz
  refine he.2 (fun _ _ _ _ => False) fun pc ls st h hs => ?_
  unfold xstep xCD at hs
  rw [hz] at hs
  exact hs
/-- a method that the reader of code says ends so, does -/
theorem EV_sound {l : Launch} {D : va_G} {tc : Nat → ClassId} {E : Nat → Nat} {X : Nat × (Nat → Int32)} {base : Nat} : ∀ d, xCl l D tc E X base d
  | 0 => fun _ _ _ _ _ he => he.elim
  | d + 1 => fun m av h v h' he hwf => by
    have hC := EV_sound (l := l) (D := D) (tc := tc) (E := E) (X := X) (base := base) d
    refine Met.ofW (cc := xmb m) (maxL := xml m) (ret := xmr m) (xmn_plain (EV_rows he)) rfl ?_
    intro p e s mI args below meth c s₁ B hml hv
    obtain ⟨rfl, hsz, hP, hK, hX⟩ := hv
    have hts := atoms_spec (ws := xws m) B.pre
    have Z : xCtx p (headSpec (xws m) { frames := d + 1, cells := h'.1 - h.1, slots := h'.2.1 - h.2.1, locals := 40 * (d + 1) }).room s mI (av.map (xc E base)).toArray meth c D tc E X base m d h h' :=
      ⟨B.exec, B.bytes, hml, findClass_of_methodNamed B.named, fun w hw => hts w (List.mem_cons_of_mem _ hw), fun hn => by rw [← hn]; exact (name_of_methodNamed B.named B.method).1, hK, hX, hsz, Nat.le_refl _, Nat.le_refl _, Nat.le_refl _, Nat.le_refl _⟩
    have hz := he.2 (xZ p l e (headSpec (xws m) { frames := d + 1, cells := h'.1 - h.1, slots := h'.2.1 - h.2.1, locals := 40 * (d + 1) }).room s mI (av.map (xc E base)).toArray below meth c D tc E base m h h' (MQ below (xQc D tc E base v h') (av.map (xc E base)).toArray s (h'.1 - h.1) (h'.2.1 - h.2.1) (xA base))) fun pc ls st h2 hs => xstep_go hC Z (fun pc ls x h hd hn hq => by obtain ⟨h2, rfl⟩ := hq; exact xs_iret Z B.returns B.notSynchronized hd hn h2) (fun pc ls h hd hn hq => by obtain ⟨h2, rfl⟩ := hq; exact xs_vret Z B.returns B.notSynchronized hd hn h2) hs
    rw [lg_entry_eq]
    have := hz.2 hwf (Nat.le_refl _) (Nat.le_refl _) s.heap [] _ (xLV.start he.1) hP va_S.rf
    rw [Nat.sub_self, Nat.sub_self] at this
    exact this
