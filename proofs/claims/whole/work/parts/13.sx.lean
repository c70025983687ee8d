/-! Steps of the reader over fixed cells, goal first. -/
section SX
variable {X : Nat × (Nat → Int32)} {C : Nat → List Value → xHp → Option Value → xHp → Prop} {m : Nat} {Q : Option Value → xHp → Prop} {pc : Nat} {ls st r : List Value} {h : xHp} {nf : List Nat}
theorem s_const {n : Int} {v : Int32} (hc : xCD m pc = some (.iconst n, nf)) (hv : Int32.ofInt n = v) (kk : RUN X C m Q (pc + 1) ls (.int v :: st) h) : RUN X C m Q pc ls st h := (RUN_iff hc).mpr (by subst hv; exact kk)
theorem s_bipush {n : Int} {v : Int32} (hc : xCD m pc = some (.bipush n, nf)) (hv : (Int8.ofInt n).toInt32 = v) (kk : RUN X C m Q (pc + 2) ls (.int v :: st) h) : RUN X C m Q pc ls st h := (RUN_iff hc).mpr (by subst hv; exact kk)
theorem s_sipush {n : Int} {v : Int32} (hc : xCD m pc = some (.sipush n, nf)) (hv : (Int16.ofInt n).toInt32 = v) (kk : RUN X C m Q (pc + 3) ls (.int v :: st) h) : RUN X C m Q pc ls st h := (RUN_iff hc).mpr (by subst hv; exact kk)
theorem s_ldc {i v w : Nat} (hc : xCD m pc = some (.ldc i, [1, v, w])) (kk : RUN X C m Q (pc + 2) ls (.int (nI v) :: st) h) : RUN X C m Q pc ls st h := (RUN_iff hc).mpr kk
theorem s_ldcs {i w : Nat} (hc : xCD m pc = some (.ldc i, [0, w])) (kk : RUN X C m Q (pc + 2) ls (.retAddr 0 :: st) h) : RUN X C m Q pc ls st h := (RUN_iff hc).mpr kk
theorem s_ldc2 {i v w : Nat} (hc : xCD m pc = some (.ldc2_w i, [v, w])) (kk : RUN X C m Q (pc + 3) ls (.long (lN v) :: st) h) : RUN X C m Q pc ls st h := (RUN_iff hc).mpr kk
theorem s_lconst {n : Fin 2} (hc : xCD m pc = some (.lconst n, nf)) (kk : RUN X C m Q (pc + 1) ls (.long (lN n) :: st) h) : RUN X C m Q pc ls st h := (RUN_iff hc).mpr kk
theorem s_gets0 {i w : Nat} (hc : xCD m pc = some (.getstatic i, [0, w])) (kk : RUN X C m Q (pc + 3) ls (.retAddr 2 :: st) h) : RUN X C m Q pc ls st h := (RUN_iff hc).mpr kk
theorem s_gets1 {i w : Nat} (hc : xCD m pc = some (.getstatic i, [1, w])) (kk : RUN X C m Q (pc + 3) ls (.int (nI 1) :: st) h) : RUN X C m Q pc ls st h := (RUN_iff hc).mpr kk
theorem s_gets2 {i w : Nat} (hc : xCD m pc = some (.getstatic i, [2, w])) (kk : RUN X C m Q (pc + 3) ls (xnf X :: st) h) : RUN X C m Q pc ls st h := (RUN_iff hc).mpr kk
theorem s_iload {k : Nat} {x : Int32} (hc : xCD m pc = some (.iload k, nf)) (hl : ls[k]? = some (.int x)) (kk : RUN X C m Q (pc + 2) ls (.int x :: st) h) : RUN X C m Q pc ls st h := (RUN_iff hc).mpr (by show xio ls[k]? _; rw [hl]; exact kk)
theorem s_iload_n {k : Fin 4} {x : Int32} (hc : xCD m pc = some (.iload_n k, nf)) (hl : ls[(k : Nat)]? = some (.int x)) (kk : RUN X C m Q (pc + 1) ls (.int x :: st) h) : RUN X C m Q pc ls st h := (RUN_iff hc).mpr (by show xio ls[(k : Nat)]? _; rw [hl]; exact kk)
theorem s_lload {k : Nat} {x : Int64} (hc : xCD m pc = some (.lload k, nf)) (hl : ls[k]? = some (.long x)) (kk : RUN X C m Q (pc + 2) ls (.long x :: st) h) : RUN X C m Q pc ls st h := (RUN_iff hc).mpr (by show xlo ls[k]? _; rw [hl]; exact kk)
theorem s_lload_n {k : Fin 4} {x : Int64} (hc : xCD m pc = some (.lload_n k, nf)) (hl : ls[(k : Nat)]? = some (.long x)) (kk : RUN X C m Q (pc + 1) ls (.long x :: st) h) : RUN X C m Q pc ls st h := (RUN_iff hc).mpr (by show xlo ls[(k : Nat)]? _; rw [hl]; exact kk)
theorem s_aload {k : Nat} {x : Nat} (hc : xCD m pc = some (.aload k, nf)) (hl : ls[k]? = some (.ref x)) (kk : RUN X C m Q (pc + 2) ls (.ref x :: st) h) : RUN X C m Q pc ls st h := (RUN_iff hc).mpr (by unfold stp; dsimp only; rw [hl]; exact kk)
theorem s_aload_n {k : Fin 4} {x : Nat} (hc : xCD m pc = some (.aload_n k, nf)) (hl : ls[(k : Nat)]? = some (.ref x)) (kk : RUN X C m Q (pc + 1) ls (.ref x :: st) h) : RUN X C m Q pc ls st h := (RUN_iff hc).mpr (by unfold stp; dsimp only; rw [hl]; exact kk)
theorem s_aloadr_n {k : Fin 4} {x : Nat} (hc : xCD m pc = some (.aload_n k, nf)) (hl : ls[(k : Nat)]? = some (.retAddr x)) (kk : RUN X C m Q (pc + 1) ls (.retAddr x :: st) h) : RUN X C m Q pc ls st h := (RUN_iff hc).mpr (by unfold stp; dsimp only; rw [hl]; exact kk)
theorem s_istore {k : Nat} {x : Int32} (hc : xCD m pc = some (.istore k, nf)) (hk : k < ls.length) (hp : xpre ls k) (kk : RUN X C m Q (pc + 2) (ls.set k (.int x)) r h) : RUN X C m Q pc ls (.int x :: r) h := (RUN_iff hc).mpr ⟨hk, hp, kk⟩
theorem s_istore_n {k : Fin 4} {x : Int32} (hc : xCD m pc = some (.istore_n k, nf)) (hk : (k : Nat) < ls.length) (hp : xpre ls k) (kk : RUN X C m Q (pc + 1) (ls.set k (.int x)) r h) : RUN X C m Q pc ls (.int x :: r) h := (RUN_iff hc).mpr ⟨hk, hp, kk⟩
theorem s_astore {k : Nat} {x : Nat} (hc : xCD m pc = some (.astore k, nf)) (hk : k < ls.length) (hp : xpre ls k) (kk : RUN X C m Q (pc + 2) (ls.set k (.ref x)) r h) : RUN X C m Q pc ls (.ref x :: r) h := (RUN_iff hc).mpr ⟨hk, hp, kk⟩
theorem s_astore_n {k : Fin 4} {x : Nat} (hc : xCD m pc = some (.astore_n k, nf)) (hk : (k : Nat) < ls.length) (hp : xpre ls k) (kk : RUN X C m Q (pc + 1) (ls.set k (.ref x)) r h) : RUN X C m Q pc ls (.ref x :: r) h := (RUN_iff hc).mpr ⟨hk, hp, kk⟩
theorem s_lstore {k : Nat} {x : Int64} (hc : xCD m pc = some (.lstore k, nf)) (hk : k + 1 < ls.length) (hp : xpre ls k) (kk : RUN X C m Q (pc + 2) ((ls.set k (.long x)).set (k + 1) (.double 0)) r h) : RUN X C m Q pc ls (.long x :: r) h := (RUN_iff hc).mpr ⟨hk, hp, kk⟩
theorem s_lstore_n {k : Fin 4} {x : Int64} (hc : xCD m pc = some (.lstore_n k, nf)) (hk : (k : Nat) + 1 < ls.length) (hp : xpre ls k) (kk : RUN X C m Q (pc + 1) ((ls.set k (.long x)).set ((k : Nat) + 1) (.double 0)) r h) : RUN X C m Q pc ls (.long x :: r) h := (RUN_iff hc).mpr ⟨hk, hp, kk⟩
theorem s_iinc {k : Nat} {n : Int} {x v : Int32} (hc : xCD m pc = some (.iinc k n, nf)) (hl : ls[k]? = some (.int x)) (hp : xpre ls k) (hv : Int32.ofInt n = v) (kk : RUN X C m Q (pc + 3) (ls.set k (.int (x + v))) st h) : RUN X C m Q pc ls st h := (RUN_iff hc).mpr (by show xio ls[k]? _; rw [hl]; subst hv; exact ⟨hp, kk⟩)
theorem s_iadd {x y : Int32} (hc : xCD m pc = some (.iadd, nf)) (kk : RUN X C m Q (pc + 1) ls (.int (x + y) :: r) h) : RUN X C m Q pc ls (.int y :: .int x :: r) h := (RUN_iff hc).mpr kk
theorem s_isub {x y : Int32} (hc : xCD m pc = some (.isub, nf)) (kk : RUN X C m Q (pc + 1) ls (.int (x - y) :: r) h) : RUN X C m Q pc ls (.int y :: .int x :: r) h := (RUN_iff hc).mpr kk
theorem s_imul {x y : Int32} (hc : xCD m pc = some (.imul, nf)) (kk : RUN X C m Q (pc + 1) ls (.int (x * y) :: r) h) : RUN X C m Q pc ls (.int y :: .int x :: r) h := (RUN_iff hc).mpr kk
theorem s_iand {x y : Int32} (hc : xCD m pc = some (.iand, nf)) (kk : RUN X C m Q (pc + 1) ls (.int (x &&& y) :: r) h) : RUN X C m Q pc ls (.int y :: .int x :: r) h := (RUN_iff hc).mpr kk
theorem s_ior {x y : Int32} (hc : xCD m pc = some (.ior, nf)) (kk : RUN X C m Q (pc + 1) ls (.int (x ||| y) :: r) h) : RUN X C m Q pc ls (.int y :: .int x :: r) h := (RUN_iff hc).mpr kk
theorem s_ishl {x y : Int32} (hc : xCD m pc = some (.ishl, nf)) (kk : RUN X C m Q (pc + 1) ls (.int (x <<< (y &&& 31)) :: r) h) : RUN X C m Q pc ls (.int y :: .int x :: r) h := (RUN_iff hc).mpr kk
theorem s_ishr {x y : Int32} (hc : xCD m pc = some (.ishr, nf)) (kk : RUN X C m Q (pc + 1) ls (.int (x >>> (y &&& 31)) :: r) h) : RUN X C m Q pc ls (.int y :: .int x :: r) h := (RUN_iff hc).mpr kk
theorem s_idiv {x y : Int32} (hc : xCD m pc = some (.idiv, nf)) (hy : ¬ y = 0) (kk : RUN X C m Q (pc + 1) ls (.int (x / y) :: r) h) : RUN X C m Q pc ls (.int y :: .int x :: r) h := (RUN_iff hc).mpr ⟨hy, kk⟩
theorem s_irem {x y : Int32} (hc : xCD m pc = some (.irem, nf)) (hy : ¬ y = 0) (kk : RUN X C m Q (pc + 1) ls (.int (x - x / y * y) :: r) h) : RUN X C m Q pc ls (.int y :: .int x :: r) h := (RUN_iff hc).mpr ⟨hy, kk⟩
theorem s_ladd {x y : Int64} (hc : xCD m pc = some (.ladd, nf)) (kk : RUN X C m Q (pc + 1) ls (.long (x + y) :: r) h) : RUN X C m Q pc ls (.long y :: .long x :: r) h := (RUN_iff hc).mpr kk
theorem s_lmul {x y : Int64} (hc : xCD m pc = some (.lmul, nf)) (kk : RUN X C m Q (pc + 1) ls (.long (x * y) :: r) h) : RUN X C m Q pc ls (.long y :: .long x :: r) h := (RUN_iff hc).mpr kk
theorem s_ldiv {x y : Int64} (hc : xCD m pc = some (.ldiv, nf)) (hy : ¬ y = 0) (kk : RUN X C m Q (pc + 1) ls (.long (x / y) :: r) h) : RUN X C m Q pc ls (.long y :: .long x :: r) h := (RUN_iff hc).mpr ⟨hy, kk⟩
theorem s_lrem {x y : Int64} (hc : xCD m pc = some (.lrem, nf)) (hy : ¬ y = 0) (kk : RUN X C m Q (pc + 1) ls (.long (x - x / y * y) :: r) h) : RUN X C m Q pc ls (.long y :: .long x :: r) h := (RUN_iff hc).mpr ⟨hy, kk⟩
theorem s_lcmp {x y : Int64} (hc : xCD m pc = some (.lcmp, nf)) (kk : RUN X C m Q (pc + 1) ls (.int (lg_cmp x y) :: r) h) : RUN X C m Q pc ls (.long y :: .long x :: r) h := (RUN_iff hc).mpr kk
theorem s_ineg {x : Int32} (hc : xCD m pc = some (.ineg, nf)) (kk : RUN X C m Q (pc + 1) ls (.int (-x) :: r) h) : RUN X C m Q pc ls (.int x :: r) h := (RUN_iff hc).mpr kk
theorem s_i2l {x : Int32} (hc : xCD m pc = some (.i2l, nf)) (kk : RUN X C m Q (pc + 1) ls (.long x.toInt64 :: r) h) : RUN X C m Q pc ls (.int x :: r) h := (RUN_iff hc).mpr kk
theorem s_l2i {x : Int64} (hc : xCD m pc = some (.l2i, nf)) (kk : RUN X C m Q (pc + 1) ls (.int x.toInt32 :: r) h) : RUN X C m Q pc ls (.long x :: r) h := (RUN_iff hc).mpr kk
theorem s_i2c {x : Int32} (hc : xCD m pc = some (.i2c, nf)) (kk : RUN X C m Q (pc + 1) ls (.int (x.toUInt32 % 65536).toInt32 :: r) h) : RUN X C m Q pc ls (.int x :: r) h := (RUN_iff hc).mpr kk
theorem s_dup {v : Value} (hc : xCD m pc = some (.dup, nf)) (hv : v.category = 1) (kk : RUN X C m Q (pc + 1) ls (v :: v :: r) h) : RUN X C m Q pc ls (v :: r) h := (RUN_iff hc).mpr ⟨hv, kk⟩
theorem s_dup2 {a b : Value} (hc : xCD m pc = some (.dup2, nf)) (h1 : a.category = 1) (h2 : b.category = 1) (kk : RUN X C m Q (pc + 1) ls (a :: b :: a :: b :: r) h) : RUN X C m Q pc ls (a :: b :: r) h := (RUN_iff hc).mpr ⟨h1, h2, kk⟩
theorem s_pop {v : Value} (hc : xCD m pc = some (.pop, nf)) (hv : v.category = 1) (kk : RUN X C m Q (pc + 1) ls r h) : RUN X C m Q pc ls (v :: r) h := (RUN_iff hc).mpr ⟨hv, kk⟩
theorem s_goto {off : Int} {t : Nat} (hc : xCD m pc = some (.goto off, [t])) (kk : RUN X C m Q t ls st h) : RUN X C m Q pc ls st h := (RUN_iff hc).mpr kk
theorem s_ifeq {x : Int32} {off : Int} {t : Nat} (hc : xCD m pc = some (.ifCond .eq off, [t])) (k1 : x = nI 0 → RUN X C m Q t ls r h) (k2 : ¬ x = nI 0 → RUN X C m Q (pc + 3) ls r h) : RUN X C m Q pc ls (.int x :: r) h := (RUN_iff hc).mpr (by
  show if x = nI 0 then RUN X C m Q t ls r h else RUN X C m Q (pc + 3) ls r h
  by_cases q : x = nI 0
  · rw [if_pos q]; exact k1 q
  · rw [if_neg q]; exact k2 q)
theorem s_ifne {x : Int32} {off : Int} {t : Nat} (hc : xCD m pc = some (.ifCond .ne off, [t])) (k1 : x = nI 0 → RUN X C m Q (pc + 3) ls r h) (k2 : ¬ x = nI 0 → RUN X C m Q t ls r h) : RUN X C m Q pc ls (.int x :: r) h := (RUN_iff hc).mpr (by
  show if x = nI 0 then RUN X C m Q (pc + 3) ls r h else RUN X C m Q t ls r h
  by_cases q : x = nI 0
  · rw [if_pos q]; exact k1 q
  · rw [if_neg q]; exact k2 q)
theorem s_iflt {x : Int32} {off : Int} {t : Nat} (hc : xCD m pc = some (.ifCond .lt off, [t])) (k1 : x < nI 0 → RUN X C m Q t ls r h) (k2 : ¬ x < nI 0 → RUN X C m Q (pc + 3) ls r h) : RUN X C m Q pc ls (.int x :: r) h := (RUN_iff hc).mpr (by
  show if x < nI 0 then RUN X C m Q t ls r h else RUN X C m Q (pc + 3) ls r h
  by_cases q : x < nI 0
  · rw [if_pos q]; exact k1 q
  · rw [if_neg q]; exact k2 q)
theorem s_ifge {x : Int32} {off : Int} {t : Nat} (hc : xCD m pc = some (.ifCond .ge off, [t])) (k1 : nI 0 ≤ x → RUN X C m Q t ls r h) (k2 : ¬ nI 0 ≤ x → RUN X C m Q (pc + 3) ls r h) : RUN X C m Q pc ls (.int x :: r) h := (RUN_iff hc).mpr (by
  show if nI 0 ≤ x then RUN X C m Q t ls r h else RUN X C m Q (pc + 3) ls r h
  by_cases q : nI 0 ≤ x
  · rw [if_pos q]; exact k1 q
  · rw [if_neg q]; exact k2 q)
theorem s_ifgt {x : Int32} {off : Int} {t : Nat} (hc : xCD m pc = some (.ifCond .gt off, [t])) (k1 : nI 0 < x → RUN X C m Q t ls r h) (k2 : ¬ nI 0 < x → RUN X C m Q (pc + 3) ls r h) : RUN X C m Q pc ls (.int x :: r) h := (RUN_iff hc).mpr (by
  show if nI 0 < x then RUN X C m Q t ls r h else RUN X C m Q (pc + 3) ls r h
  by_cases q : nI 0 < x
  · rw [if_pos q]; exact k1 q
  · rw [if_neg q]; exact k2 q)
theorem s_ifle {x : Int32} {off : Int} {t : Nat} (hc : xCD m pc = some (.ifCond .le off, [t])) (k1 : x ≤ nI 0 → RUN X C m Q t ls r h) (k2 : ¬ x ≤ nI 0 → RUN X C m Q (pc + 3) ls r h) : RUN X C m Q pc ls (.int x :: r) h := (RUN_iff hc).mpr (by
  show if x ≤ nI 0 then RUN X C m Q t ls r h else RUN X C m Q (pc + 3) ls r h
  by_cases q : x ≤ nI 0
  · rw [if_pos q]; exact k1 q
  · rw [if_neg q]; exact k2 q)
theorem s_iceq {x y : Int32} {off : Int} {t : Nat} (hc : xCD m pc = some (.if_icmp .eq off, [t])) (k1 : x = y → RUN X C m Q t ls r h) (k2 : ¬ x = y → RUN X C m Q (pc + 3) ls r h) : RUN X C m Q pc ls (.int y :: .int x :: r) h := (RUN_iff hc).mpr (by
  show if x = y then RUN X C m Q t ls r h else RUN X C m Q (pc + 3) ls r h
  by_cases q : x = y
  · rw [if_pos q]; exact k1 q
  · rw [if_neg q]; exact k2 q)
theorem s_icne {x y : Int32} {off : Int} {t : Nat} (hc : xCD m pc = some (.if_icmp .ne off, [t])) (k1 : x = y → RUN X C m Q (pc + 3) ls r h) (k2 : ¬ x = y → RUN X C m Q t ls r h) : RUN X C m Q pc ls (.int y :: .int x :: r) h := (RUN_iff hc).mpr (by
  show if x = y then RUN X C m Q (pc + 3) ls r h else RUN X C m Q t ls r h
  by_cases q : x = y
  · rw [if_pos q]; exact k1 q
  · rw [if_neg q]; exact k2 q)
theorem s_iclt {x y : Int32} {off : Int} {t : Nat} (hc : xCD m pc = some (.if_icmp .lt off, [t])) (k1 : x < y → RUN X C m Q t ls r h) (k2 : ¬ x < y → RUN X C m Q (pc + 3) ls r h) : RUN X C m Q pc ls (.int y :: .int x :: r) h := (RUN_iff hc).mpr (by
  show if x < y then RUN X C m Q t ls r h else RUN X C m Q (pc + 3) ls r h
  by_cases q : x < y
  · rw [if_pos q]; exact k1 q
  · rw [if_neg q]; exact k2 q)
theorem s_icge {x y : Int32} {off : Int} {t : Nat} (hc : xCD m pc = some (.if_icmp .ge off, [t])) (k1 : y ≤ x → RUN X C m Q t ls r h) (k2 : ¬ y ≤ x → RUN X C m Q (pc + 3) ls r h) : RUN X C m Q pc ls (.int y :: .int x :: r) h := (RUN_iff hc).mpr (by
  show if y ≤ x then RUN X C m Q t ls r h else RUN X C m Q (pc + 3) ls r h
  by_cases q : y ≤ x
  · rw [if_pos q]; exact k1 q
  · rw [if_neg q]; exact k2 q)
theorem s_icgt {x y : Int32} {off : Int} {t : Nat} (hc : xCD m pc = some (.if_icmp .gt off, [t])) (k1 : y < x → RUN X C m Q t ls r h) (k2 : ¬ y < x → RUN X C m Q (pc + 3) ls r h) : RUN X C m Q pc ls (.int y :: .int x :: r) h := (RUN_iff hc).mpr (by
  show if y < x then RUN X C m Q t ls r h else RUN X C m Q (pc + 3) ls r h
  by_cases q : y < x
  · rw [if_pos q]; exact k1 q
  · rw [if_neg q]; exact k2 q)
theorem s_icle {x y : Int32} {off : Int} {t : Nat} (hc : xCD m pc = some (.if_icmp .le off, [t])) (k1 : x ≤ y → RUN X C m Q t ls r h) (k2 : ¬ x ≤ y → RUN X C m Q (pc + 3) ls r h) : RUN X C m Q pc ls (.int y :: .int x :: r) h := (RUN_iff hc).mpr (by
  show if x ≤ y then RUN X C m Q t ls r h else RUN X C m Q (pc + 3) ls r h
  by_cases q : x ≤ y
  · rw [if_pos q]; exact k1 q
  · rw [if_neg q]; exact k2 q)
theorem s_switch {d lo hi : Int} {offs : Array Int} {x : Int32} (hc : xCD m pc = some (.tableswitch d lo hi offs, nf)) (kk : xsw nf (x.toInt - lo) fun t => RUN X C m Q t ls r h) : RUN X C m Q pc ls (.int x :: r) h := (RUN_iff hc).mpr kk
theorem s_nonnull1 {a : Nat} {off : Int} {t : Nat} (hc : xCD m pc = some (.ifnonnull off, [t])) (kk : RUN X C m Q t ls r h) : RUN X C m Q pc ls (.ref a :: r) h := (RUN_iff hc).mpr kk
theorem s_nonnull0 {off : Int} {t : Nat} (hc : xCD m pc = some (.ifnonnull off, [t])) (kk : RUN X C m Q (pc + 3) ls r h) : RUN X C m Q pc ls (.null :: r) h := (RUN_iff hc).mpr kk
theorem s_iret {v : Int32} (hc : xCD m pc = some (.ireturn, nf)) (hn : xrt m v) (hq : Q (some (.int v)) h) : RUN X C m Q pc ls [.int v] h := (RUN_iff hc).mpr ⟨hn, hq⟩
theorem s_ret (hc : xCD m pc = some (.return_, nf)) (hn : xmr m = none) (hq : Q none h) : RUN X C m Q pc ls [] h := (RUN_iff hc).mpr ⟨hn, hq⟩
theorem xrtI {v : Int32} (h : xmr m = some .int) : xrt m v := by unfold xrt; rw [h]; rfl
theorem xrtZ {v : Int32} (h : xmr m = some .boolean) (hv : v = nI 0 ∨ v = nI 1) : xrt m v := by
  unfold xrt; rw [h]
  rcases hv with rfl | rfl <;> exact congrArg Value.int (by decide)
theorem s_max {i w1 w2 w3 w4 : Nat} {x y : Int32} (hc : xCD m pc = some (.invokestatic i, [0, w1, w2, w3, w4])) (hr : xcat r ≤ 8) (kk : RUN X C m Q (pc + 3) ls (.int (if x < y then y else x) :: r) h) : RUN X C m Q pc ls (.int y :: .int x :: r) h := (RUN_iff hc).mpr ⟨hr, kk⟩
theorem s_abs {i w1 w2 w3 w4 : Nat} {x : Int32} (hc : xCD m pc = some (.invokestatic i, [1, w1, w2, w3, w4])) (hr : xcat r ≤ 8) (kk : RUN X C m Q (pc + 3) ls (.int (if 0 ≤ x then x else 0 - x) :: r) h) : RUN X C m Q pc ls (.int x :: r) h := (RUN_iff hc).mpr ⟨hr, kk⟩
theorem s_calls {i m2 n nest w1 w2 w3 w4 : Nat} {args : List Value} {v : Option Value} {h1 : xHp} (hc : xCD m pc = some (.invokestatic i, [m2, n, nest, w1, w2, w3, w4])) (hst : st = args.reverse ++ r) (hn : args.length = n) (hr : xcat r ≤ 8) (he : C m2 args h v h1) (kk : RUN X C m Q (pc + 3) ls (v.toList ++ r) h1) : RUN X C m Q pc ls st h := (RUN_iff hc).mpr (by
  subst hst hn
  show xcat (List.drop args.length (args.reverse ++ r)) ≤ 8 ∧ args.length ≤ (args.reverse ++ r).length ∧ ∃ v h1, C m2 (List.take args.length (args.reverse ++ r)).reverse h v h1 ∧ RUN X C m Q (pc + 3) ls (v.toList ++ List.drop args.length (args.reverse ++ r)) h1
  rw [← List.length_reverse (as := args), List.drop_left, List.take_left, List.reverse_reverse]
  exact ⟨hr, by rw [List.length_append]; omega, v, h1, he, kk⟩)
theorem s_callv {i m2 n w0 w1 w2 w3 w4 w5 a ci z : Nat} {args : List Value} {v : Option Value} {D : zD} {ct : zM} {h1 : xHp} (hc : xCD m pc = some (.invokevirtual i, [m2, n, w0, w1, w2, w3, w4, w5])) (hst : st = args.reverse ++ .ref a :: r) (hn : args.length = n) (hr : xcat r ≤ 8) (hs : zsh D a = (ci, z)) (hci : xmc m2 = ci ∧ ci < 8) (he : C m2 (.ref a :: args) (mk D ct) v h1) (kk : RUN X C m Q (pc + 3) ls (v.toList ++ r) h1) : RUN X C m Q pc ls st (mk D ct) := (RUN_iff hc).mpr (by
  subst hst hn
  show xv1 (List.drop args.length (args.reverse ++ .ref a :: r)) _
  rw [← List.length_reverse (as := args), List.drop_left, List.take_left, List.reverse_reverse]
  refine ⟨hr, ?_, v, h1, he, kk⟩
  show xob (hg (mk D ct) a) (xmc m2) fun _ => True
  rw [hg_mk, zc_o hs hci.2, hci.1]
  exact ⟨rfl, trivial⟩)
end SX
section SY
variable {X : Nat × (Nat → Int32)} {C : Nat → List Value → xHp → Option Value → xHp → Prop} {m : Nat} {Q : Option Value → xHp → Prop} {pc : Nat} {ls st r : List Value} {nf : List Nat} {D : zD} {ct : zM}
theorem s_getf {ci k i w a z : Nat} {v : Value} (hc : xCD m pc = some (.getfield i, [ci, k, w])) (hs : zsh D a = (ci, z)) (hci : ci < 8) (hv : (zobj ci a (ct a))[k]? = some v) (kk : RUN X C m Q (pc + 3) ls (v :: r) (mk D ct)) : RUN X C m Q pc ls (.ref a :: r) (mk D ct) := (RUN_iff hc).mpr (by
  show xob (hg (mk D ct) a) ci fun fs => xsm fs[k]? fun v => RUN X C m Q (pc + 3) ls (v :: r) (mk D ct)
  rw [hg_mk, zc_o hs hci]
  refine ⟨rfl, ?_⟩
  show xsm (zobj ci a (ct a))[k]? _
  rw [hv]
  exact kk)
def zint (ci k : Nat) : Prop := ∀ (a : Nat) (r : Nat → Int32) (v : Int32), k < (zobj ci a r).length ∧ (zobj ci a r).set k (.int v) = zobj ci a (upd r k v)
theorem s_putf {ci k i w a z : Nat} {v : Int32} (hc : xCD m pc = some (.putfield i, [ci, k, w])) (hs : zsh D a = (ci, z)) (hci : ci < 8) (hz : zint ci k) (hf : xfit ci k (.int v)) (kk : RUN X C m Q (pc + 3) ls r (mk D (u2 ct a k v))) : RUN X C m Q pc ls (.int v :: .ref a :: r) (mk D ct) := (RUN_iff hc).mpr (by
  show xob (hg (mk D ct) a) ci fun fs => k < fs.length ∧ xfit ci k (.int v) ∧ RUN X C m Q (pc + 3) ls r (xset (mk D ct) a (.inr (ci, fs.set k (.int v))))
  rw [hg_mk, zc_o hs hci]
  refine ⟨rfl, (hz a (ct a) v).1, hf, ?_⟩
  rw [(hz a (ct a) v).2, xset_mk (k := k) (v := v) (zc_o hs hci).symm]
  exact kk)
theorem xfit_i {ci k N : Nat} {Cn : String} {T : u_T} {v : Int32} (h : xcls[ci]? = some (Cn, T, N)) (hp : parseFieldDescriptor (T k).2.2.1 = some .int) : xfit ci k (.int v) := by
  unfold xfit; rw [h]; dsimp only; rw [hp]; exact ⟨rfl, rfl⟩
theorem xfit_z {ci k N : Nat} {Cn : String} {T : u_T} {v : Int32} (h : xcls[ci]? = some (Cn, T, N)) (hp : parseFieldDescriptor (T k).2.2.1 = some .boolean) (hv : v = nI 0 ∨ v = nI 1) : xfit ci k (.int v) := by
  unfold xfit; rw [h]; dsimp only; rw [hp]
  rcases hv with rfl | rfl
  · exact ⟨congrArg Value.int (by decide), by decide⟩
  · exact ⟨congrArg Value.int (by decide), by decide⟩
theorem s_iald {a j n : Nat} {x : Int32} (hc : xCD m pc = some (.iaload, nf)) (hs : zsh D a = (10, n)) (hx : zix x j n) (kk : RUN X C m Q (pc + 1) ls (.int (ct a j) :: r) (mk D ct)) : RUN X C m Q pc ls (.int x :: .ref a :: r) (mk D ct) := (RUN_iff hc).mpr (by
  obtain ⟨h1, h2⟩ := zix_in hx
  show xar (hg (mk D ct) a) 0 fun n g => vp_in x n ∧ RUN X C m Q (pc + 1) ls (.int (g x.toNatClampNeg) :: r) (mk D ct)
  rw [hg_mk, zc_10 hs]
  refine ⟨rfl, h1, ?_⟩
  rw [h2]
  exact kk)
theorem s_cald {a j n : Nat} {x : Int32} (hc : xCD m pc = some (.caload, nf)) (hs : zsh D a = (11, n)) (hx : zix x j n) (kk : RUN X C m Q (pc + 1) ls (.int (ct a j) :: r) (mk D ct)) : RUN X C m Q pc ls (.int x :: .ref a :: r) (mk D ct) := (RUN_iff hc).mpr (by
  obtain ⟨h1, h2⟩ := zix_in hx
  show xar (hg (mk D ct) a) 1 fun n g => vp_in x n ∧ RUN X C m Q (pc + 1) ls (.int (g x.toNatClampNeg) :: r) (mk D ct)
  rw [hg_mk, zc_11 hs]
  refine ⟨rfl, h1, ?_⟩
  rw [h2]
  exact kk)
theorem s_bald {a j n : Nat} {x : Int32} (hc : xCD m pc = some (.baload, nf)) (hs : zsh D a = (12, n)) (hx : zix x j n) (kk : RUN X C m Q (pc + 1) ls (.int (ct a j) :: r) (mk D ct)) : RUN X C m Q pc ls (.int x :: .ref a :: r) (mk D ct) := (RUN_iff hc).mpr (by
  obtain ⟨h1, h2⟩ := zix_in hx
  show xar (hg (mk D ct) a) 2 fun n g => vp_in x n ∧ RUN X C m Q (pc + 1) ls (.int (g x.toNatClampNeg) :: r) (mk D ct)
  rw [hg_mk, zc_12 hs]
  refine ⟨rfl, h1, ?_⟩
  rw [h2]
  exact kk)
theorem s_sizes {j : Nat} {x : Int32} {h : xHp} (hc : xCD m pc = some (.iaload, nf)) (hx : zix x j 8) (kk : RUN X C m Q (pc + 1) ls (.int (xsz j) :: r) h) : RUN X C m Q pc ls (.int x :: .retAddr 2 :: r) h := (RUN_iff hc).mpr (by
  obtain ⟨h1, h2⟩ := zix_in hx
  refine ⟨h1, ?_⟩
  rw [h2]
  exact kk)
theorem s_alen2 {h : xHp} (hc : xCD m pc = some (.arraylength, nf)) (kk : RUN X C m Q (pc + 1) ls (.int (nI 8) :: r) h) : RUN X C m Q pc ls (.retAddr 2 :: r) h := (RUN_iff hc).mpr kk
theorem s_alen1 {h : xHp} (hc : xCD m pc = some (.arraylength, nf)) (kk : RUN X C m Q (pc + 1) ls (.int (nI 91) :: r) h) : RUN X C m Q pc ls (.retAddr 1 :: r) h := (RUN_iff hc).mpr kk
theorem s_alen4 {h : xHp} (hc : xCD m pc = some (.arraylength, nf)) (kk : RUN X C m Q (pc + 1) ls (.int (nI X.1) :: r) h) : RUN X C m Q pc ls (.retAddr 4 :: r) h := (RUN_iff hc).mpr kk
theorem s_script {j n : Nat} {x : Int32} {h : xHp} (hc : xCD m pc = some (.iaload, nf)) (hn : X.1 = n) (hx : zix x j n) (kk : RUN X C m Q (pc + 1) ls (.int (X.2 j) :: r) h) : RUN X C m Q pc ls (.int x :: .retAddr 4 :: r) h := (RUN_iff hc).mpr (by
  subst hn
  obtain ⟨h1, h2⟩ := zix_in hx
  refine ⟨h1, ?_⟩
  rw [h2]
  exact kk)
theorem s_text {j : Nat} {x : Int32} {h : xHp} (hc : xCD m pc = some (.baload, nf)) (hx : zix x j 91) (kk : RUN X C m Q (pc + 1) ls (.int (xby j) :: r) h) : RUN X C m Q pc ls (.int x :: .retAddr 1 :: r) h := (RUN_iff hc).mpr (by
  obtain ⟨h1, h2⟩ := zix_in hx
  refine ⟨h1, ?_⟩
  rw [h2]
  exact kk)
theorem s_iast {a j n : Nat} {x v : Int32} (hc : xCD m pc = some (.iastore, nf)) (hs : zsh D a = (10, n)) (hx : zix x j n) (kk : RUN X C m Q (pc + 1) ls r (mk D (u2 ct a j v))) : RUN X C m Q pc ls (.int v :: .int x :: .ref a :: r) (mk D ct) := (RUN_iff hc).mpr (by
  obtain ⟨h1, h2⟩ := zix_in hx
  show xar (hg (mk D ct) a) 0 fun n g => vp_in x n ∧ RUN X C m Q (pc + 1) ls r (xset (mk D ct) a (.inl (0, n, .inl (upd g x.toNatClampNeg v))))
  rw [hg_mk, zc_10 hs]
  refine ⟨rfl, h1, ?_⟩
  rw [h2, xset_mk (k := j) (v := v) (zc_10 hs).symm]
  exact kk)
theorem s_bast {a j n : Nat} {x v : Int32} (hc : xCD m pc = some (.bastore, nf)) (hs : zsh D a = (12, n)) (hx : zix x j n) (hv : v = nI 0 ∨ v = nI 1) (kk : RUN X C m Q (pc + 1) ls r (mk D (u2 ct a j v))) : RUN X C m Q pc ls (.int v :: .int x :: .ref a :: r) (mk D ct) := (RUN_iff hc).mpr (by
  obtain ⟨h1, h2⟩ := zix_in hx
  have hb : vp_nar .boolean v = v := by rcases hv with rfl | rfl <;> decide
  show xar (hg (mk D ct) a) 2 fun n g => vp_in x n ∧ RUN X C m Q (pc + 1) ls r (xset (mk D ct) a (.inl (2, n, .inl (upd g x.toNatClampNeg (vp_nar .boolean v)))))
  rw [hg_mk, zc_12 hs]
  refine ⟨rfl, h1, ?_⟩
  rw [h2, hb, xset_mk (k := j) (v := v) (zc_12 hs).symm]
  exact kk)
theorem s_cast {a j n : Nat} {x v : Int32} (hc : xCD m pc = some (.castore, nf)) (hs : zsh D a = (11, n)) (hx : zix x j n) (hv : vp_nar .char v = v) (kk : RUN X C m Q (pc + 1) ls r (mk D (u2 ct a j v))) : RUN X C m Q pc ls (.int v :: .int x :: .ref a :: r) (mk D ct) := (RUN_iff hc).mpr (by
  obtain ⟨h1, h2⟩ := zix_in hx
  show xar (hg (mk D ct) a) 1 fun n g => vp_in x n ∧ RUN X C m Q (pc + 1) ls r (xset (mk D ct) a (.inl (1, n, .inl (upd g x.toNatClampNeg (vp_nar .char v)))))
  rw [hg_mk, zc_11 hs]
  refine ⟨rfl, h1, ?_⟩
  rw [h2, hv, xset_mk (k := j) (v := v) (zc_11 hs).symm]
  exact kk)
end SY
theorem EV_intro {X : Nat × (Nat → Int32)} {d m : Nat} {args : List Value} {h h' : xHp} {v : Option Value} (hl : (xarg args).length ≤ xml m) (hr : RUN X (EV X d) m (fun v1 h1 => v1 = v ∧ h1 = h') 0 (xini m args) [] h) : EV X (d + 1) m args h v h' := ⟨hl, hr⟩
/-- called so, the method comes to an end of which P holds -/
def CE (X : Nat × (Nat → Int32)) (d m : Nat) (args : List Value) (D : zD) (ct : zM) (P : Option Value → zD → zM → Prop) : Prop := ∃ v D' ct', EV X d m args (mk D ct) v (mk D' ct') ∧ P v D' ct'
/-- the end of a run, as CE wants it -/
def zQ (P : Option Value → zD → zM → Prop) : Option Value → xHp → Prop := fun v h => ∃ D' ct', h = mk D' ct' ∧ P v D' ct'
theorem zQ_of {P : Option Value → zD → zM → Prop} {v : Option Value} {D : zD} {ct : zM} (h : P v D ct) : zQ P v (mk D ct) := ⟨D, ct, rfl, h⟩
theorem CE_of {X : Nat × (Nat → Int32)} {d m : Nat} {args : List Value} {D : zD} {ct : zM} {P : Option Value → zD → zM → Prop} (hl : (xarg args).length ≤ xml m) (hr : RUN X (EV X d) m (zQ P) 0 (xini m args) [] (mk D ct)) : CE X (d + 1) m args D ct P := by
  obtain ⟨v, h', he, D', ct', rfl, hp⟩ := EVP_of hl hr
  exact ⟨v, D', ct', he, hp⟩
theorem CE.mono {X : Nat × (Nat → Int32)} {d m : Nat} {args : List Value} {D : zD} {ct : zM} {P P' : Option Value → zD → zM → Prop} (h : CE X d m args D ct P) (k : ∀ v D' ct', P v D' ct' → P' v D' ct') : CE X d m args D ct P' := by
  obtain ⟨v, D', ct', he, hp⟩ := h
  exact ⟨v, D', ct', he, k _ _ _ hp⟩
