/-! The reader of code: what a step does to a picture of the machine (locals, stack, cells by their places); what holds at the end (RUN). -/
def xmn (m : Nat) : MethodName := xmN.getD m xy0
def xmb (m : Nat) : ByteArray := xmB.getD m ⟨#[]⟩
def xml (m : Nat) : Nat := xmL.getD m 0
def xmr (m : Nat) : Option FieldType := xmR.getD m none
def xmc (m : Nat) : Nat := xmC.getD m 9
def xCD (m pc : Nat) : Option (Instr × List Nat) := (xMT.getD m []).lookup pc
/-- cells: an array (its kind 0 int, 1 char, 2 boolean, 3 Town; its length; its contents), or an object (its class, its fields) -/
abbrev xC : Type := (Nat × Nat × ((Nat → Int32) ⊕ (Nat → Option Nat))) ⊕ (Nat × List Value)
/-- how many cells, how many slots, the cells -/
abbrev xHp : Type := Nat × Nat × (Nat → Option xC)
def hg (h : xHp) (a : Nat) : Option xC := h.2.2 a
def xset (h : xHp) (a : Nat) (c : xC) : xHp := (h.1, h.2.1, fun j => if j = a then some c else h.2.2 j)
def xnew (h : xHp) (k : Nat) (c : xC) : xHp := (h.1 + 1, h.2.1 + k, fun j => if j = h.1 then some c else h.2.2 j)
def xsz : Nat → Int32 := fun j => ([0, 4, 3, 2, 2, 3, 1, 2] : List Int32).getD j 0
def xby : Nat → Int32 := fun j => ([118, 52, 44, 53, 59, 112, 51, 44, 52, 59, 112, 56, 44, 49, 59, 112, 57, 44, 49, 59, 112, 49, 50, 44, 53, 59, 112, 49, 49, 44, 50, 59, 112, 49, 51, 44, 55, 59, 112, 49, 54, 44, 51, 59, 112, 49, 56, 44, 49, 59, 105, 51, 44, 48, 59, 105, 50, 44, 52, 59, 105, 49, 54, 44, 48, 59, 105, 49, 55, 44, 51, 59, 101, 49, 50, 59, 119, 50, 59, 108, 57, 59, 103, 51, 44, 50, 44, 52, 44, 49, 59] : List Int32).getD j 0
-- looking at a stack, a local, a cell
def xi1 (st : List Value) (f : Int32 → List Value → Prop) : Prop := match st with
  | .int x :: r => f x r
  | _ => False
def xi2 (st : List Value) (f : Int32 → Int32 → List Value → Prop) : Prop := match st with
  | .int y :: .int x :: r => f x y r
  | _ => False
def xl1 (st : List Value) (f : Int64 → List Value → Prop) : Prop := match st with
  | .long x :: r => f x r
  | _ => False
def xl2 (st : List Value) (f : Int64 → Int64 → List Value → Prop) : Prop := match st with
  | .long y :: .long x :: r => f x y r
  | _ => False
def xr1 (st : List Value) (f : Nat → List Value → Prop) : Prop := match st with
  | .ref x :: r => f x r
  | _ => False
def xv1 (st : List Value) (f : Value → List Value → Prop) : Prop := match st with
  | v :: r => f v r
  | _ => False
def xio (o : Option Value) (f : Int32 → Prop) : Prop := match o with
  | some (.int x) => f x
  | _ => False
def xlo (o : Option Value) (f : Int64 → Prop) : Prop := match o with
  | some (.long x) => f x
  | _ => False
def xao (o : Option Value) (f : Value → Prop) : Prop := match o with
  | some (.ref x) => f (.ref x)
  | some (.retAddr x) => f (.retAddr x)
  | _ => False
def xsm (o : Option Value) (f : Value → Prop) : Prop := match o with
  | some v => f v
  | none => False
def xnl (o : Option Value) : Prop := match o with
  | some (.long _) => False
  | _ => True
def xpre (ls : List Value) (k : Nat) : Prop := match k with
  | 0 => True
  | k + 1 => xnl ls[k]?
def xob (c : Option xC) (ci : Nat) (f : List Value → Prop) : Prop := match c with
  | some (.inr (i, fs)) => i = ci ∧ f fs
  | _ => False
def xar (c : Option xC) (t : Nat) (f : Nat → (Nat → Int32) → Prop) : Prop := match c with
  | some (.inl (i, n, .inl g)) => i = t ∧ f n g
  | _ => False
def xaq (c : Option xC) (f : Nat → (Nat → Option Nat) → Prop) : Prop := match c with
  | some (.inl (i, n, .inr g)) => i = 3 ∧ f n g
  | _ => False
def xal (c : Option xC) (f : Nat → Prop) : Prop := match c with
  | some (.inl (_, n, _)) => f n
  | _ => False
/-- a static of the JDK's that is a reference or null: the script's place behind its end says which -/
def xnf (X : Nat × (Nat → Int32)) : Value := if X.2 X.1 = 0 then .null else .retAddr 3
/-- what a field of a type may hold -/
def xfit (ci k : Nat) (v : Value) : Prop := match xcls[ci]? with
  | some (_, T, _) => match parseFieldDescriptor (T k).2.2.1 with
    | some ty => narrow ty v = v ∧ fits ty v = true
    | none => False
  | none => False
def xrt (m : Nat) (v : Int32) : Prop := match xmr m with
  | some ty => narrow ty (.int v) = .int v
  | none => False
def xcat (st : List Value) : Nat := (st.map fun v => v.category).sum
def xsw (ts : List Nat) (k : Int) (f : Nat → Prop) : Prop := match ts with
  | [] => False
  | d :: ts => if k < 0 then f d else match ts[k.toNat]? with
    | some t => f t
    | none => f d
/-- one step -/
def stp (X : Nat × (Nat → Int32)) (C : Nat → List Value → xHp → Option Value → xHp → Prop) (m : Nat) (i : Instr) (nf : List Nat) (pc : Nat) (ls st : List Value) (h : xHp) (K : Nat → List Value → List Value → xHp → Prop) (Q : Option Value → xHp → Prop) : Prop := match i with
  | .iconst n => K (pc + 1) ls (.int (Int32.ofInt n) :: st) h
  | .bipush n => K (pc + 2) ls (.int (Int8.ofInt n).toInt32 :: st) h
  | .sipush n => K (pc + 3) ls (.int (Int16.ofInt n).toInt32 :: st) h
  | .lconst n => K (pc + 1) ls (.long (Int64.ofNat n) :: st) h
  | .ldc _ => match nf with
    | [_, _] => K (pc + 2) ls (.retAddr 0 :: st) h
    | [_, v, _] => K (pc + 2) ls (.int (Int32.ofNat v) :: st) h
    | _ => False
  | .ldc2_w _ => match nf with
    | [v, _] => K (pc + 3) ls (.long (Int64.ofNat v) :: st) h
    | _ => False
  | .iload k => xio ls[k]? fun x => K (pc + 2) ls (.int x :: st) h
  | .iload_n k => xio ls[(k : Nat)]? fun x => K (pc + 1) ls (.int x :: st) h
  | .lload k => xlo ls[k]? fun x => K (pc + 2) ls (.long x :: st) h
  | .lload_n k => xlo ls[(k : Nat)]? fun x => K (pc + 1) ls (.long x :: st) h
  | .aload k => xao ls[k]? fun x => K (pc + 2) ls (x :: st) h
  | .aload_n k => xao ls[(k : Nat)]? fun x => K (pc + 1) ls (x :: st) h
  | .istore k => xi1 st fun x r => k < ls.length ∧ xpre ls k ∧ K (pc + 2) (ls.set k (.int x)) r h
  | .istore_n k => xi1 st fun x r => (k : Nat) < ls.length ∧ xpre ls k ∧ K (pc + 1) (ls.set k (.int x)) r h
  | .lstore k => xl1 st fun x r => k + 1 < ls.length ∧ xpre ls k ∧ K (pc + 2) ((ls.set k (.long x)).set (k + 1) (.double 0)) r h
  | .lstore_n k => xl1 st fun x r => (k : Nat) + 1 < ls.length ∧ xpre ls k ∧ K (pc + 1) ((ls.set k (.long x)).set ((k : Nat) + 1) (.double 0)) r h
  | .astore k => xr1 st fun x r => k < ls.length ∧ xpre ls k ∧ K (pc + 2) (ls.set k (.ref x)) r h
  | .astore_n k => xr1 st fun x r => (k : Nat) < ls.length ∧ xpre ls k ∧ K (pc + 1) (ls.set k (.ref x)) r h
  | .iinc k n => xio ls[k]? fun x => xpre ls k ∧ K (pc + 3) (ls.set k (.int (x + Int32.ofInt n))) st h
  | .iadd => xi2 st fun x y r => K (pc + 1) ls (.int (x + y) :: r) h
  | .isub => xi2 st fun x y r => K (pc + 1) ls (.int (x - y) :: r) h
  | .imul => xi2 st fun x y r => K (pc + 1) ls (.int (x * y) :: r) h
  | .iand => xi2 st fun x y r => K (pc + 1) ls (.int (x &&& y) :: r) h
  | .ior => xi2 st fun x y r => K (pc + 1) ls (.int (x ||| y) :: r) h
  | .idiv => xi2 st fun x y r => ¬ y = 0 ∧ K (pc + 1) ls (.int (x / y) :: r) h
  | .irem => xi2 st fun x y r => ¬ y = 0 ∧ K (pc + 1) ls (.int (x - x / y * y) :: r) h
  | .ineg => xi1 st fun x r => K (pc + 1) ls (.int (-x) :: r) h
  | .ishl => xi2 st fun x y r => K (pc + 1) ls (.int (x <<< (y &&& 31)) :: r) h
  | .ishr => xi2 st fun x y r => K (pc + 1) ls (.int (x >>> (y &&& 31)) :: r) h
  | .ladd => xl2 st fun x y r => K (pc + 1) ls (.long (x + y) :: r) h
  | .lmul => xl2 st fun x y r => K (pc + 1) ls (.long (x * y) :: r) h
  | .ldiv => xl2 st fun x y r => ¬ y = 0 ∧ K (pc + 1) ls (.long (x / y) :: r) h
  | .lrem => xl2 st fun x y r => ¬ y = 0 ∧ K (pc + 1) ls (.long (x - x / y * y) :: r) h
  | .lcmp => xl2 st fun x y r => K (pc + 1) ls (.int (lg_cmp x y) :: r) h
  | .i2l => xi1 st fun x r => K (pc + 1) ls (.long x.toInt64 :: r) h
  | .l2i => xl1 st fun x r => K (pc + 1) ls (.int x.toInt32 :: r) h
  | .i2c => xi1 st fun x r => K (pc + 1) ls (.int (x.toUInt32 % 65536).toInt32 :: r) h
  | .dup => xv1 st fun v r => v.category = 1 ∧ K (pc + 1) ls (v :: v :: r) h
  | .dup2 => match st with
    | a :: b :: r => a.category = 1 ∧ b.category = 1 ∧ K (pc + 1) ls (a :: b :: a :: b :: r) h
    | _ => False
  | .pop => xv1 st fun v r => v.category = 1 ∧ K (pc + 1) ls r h
  | .ifCond c _ => match nf with
    | [t] => xi1 st fun x r => match c with
      | .eq => if x = 0 then K t ls r h else K (pc + 3) ls r h
      | .ne => if x = 0 then K (pc + 3) ls r h else K t ls r h
      | .lt => if x < 0 then K t ls r h else K (pc + 3) ls r h
      | .ge => if 0 ≤ x then K t ls r h else K (pc + 3) ls r h
      | .gt => if 0 < x then K t ls r h else K (pc + 3) ls r h
      | .le => if x ≤ 0 then K t ls r h else K (pc + 3) ls r h
    | _ => False
  | .if_icmp c _ => match nf with
    | [t] => xi2 st fun x y r => match c with
      | .eq => if x = y then K t ls r h else K (pc + 3) ls r h
      | .ne => if x = y then K (pc + 3) ls r h else K t ls r h
      | .lt => if x < y then K t ls r h else K (pc + 3) ls r h
      | .ge => if y ≤ x then K t ls r h else K (pc + 3) ls r h
      | .gt => if y < x then K t ls r h else K (pc + 3) ls r h
      | .le => if x ≤ y then K t ls r h else K (pc + 3) ls r h
    | _ => False
  | .goto _ => match nf with
    | [t] => K t ls st h
    | _ => False
  | .ifnonnull _ => match nf with
    | [t] => match st with
      | .ref _ :: r => K t ls r h
      | .null :: r => K (pc + 3) ls r h
      | _ => False
    | _ => False
  | .tableswitch _ lo _ _ => xi1 st fun x r => xsw nf (x.toInt - lo) fun t => K t ls r h
  | .getfield _ => match nf with
    | [ci, k, _] => xr1 st fun a r => xob (hg h a) ci fun fs => xsm fs[k]? fun v => K (pc + 3) ls (v :: r) h
    | [k, _] => match st with
      | .retAddr 0 :: r => if k = 0 then K (pc + 3) ls (.retAddr 1 :: r) h else K (pc + 3) ls (.int 0 :: r) h
      | _ => False
    | _ => False
  | .putfield _ => match nf with
    | [ci, k, _] => match st with
      | v :: .ref a :: r => xob (hg h a) ci fun fs => k < fs.length ∧ xfit ci k v ∧ K (pc + 3) ls r (xset h a (.inr (ci, fs.set k v)))
      | _ => False
    | _ => False
  | .getstatic _ => match nf with
    | [0, _] => K (pc + 3) ls (.retAddr 2 :: st) h
    | [1, _] => K (pc + 3) ls (.int 1 :: st) h
    | [2, _] => K (pc + 3) ls (xnf X :: st) h
    | _ => False
  | .new _ => match nf with
    | [ci, _, _, _] => K (pc + 3) ls (.ref h.1 :: st) (xnew h (xdef.getD ci []).length (.inr (ci, xdef.getD ci [])))
    | _ => False
  | .newarray _ => match nf with
    | [t, _] => xi1 st fun n r => ¬ n < 0 ∧ n.toNatClampNeg ≤ 1000 ∧ K (pc + 2) ls (.ref h.1 :: r) (xnew h n.toNatClampNeg (.inl (t, n.toNatClampNeg, .inl fun _ => 0)))
    | _ => False
  | .anewarray _ => match nf with
    | [_, _] => xi1 st fun n r => ¬ n < 0 ∧ n.toNatClampNeg ≤ 1000 ∧ K (pc + 3) ls (.ref h.1 :: r) (xnew h n.toNatClampNeg (.inl (3, n.toNatClampNeg, .inr fun _ => none)))
    | _ => False
  | .iaload => match st with
    | .int i :: .ref a :: r => xar (hg h a) 0 fun n g => vp_in i n ∧ K (pc + 1) ls (.int (g i.toNatClampNeg) :: r) h
    | .int i :: .retAddr 2 :: r => vp_in i 8 ∧ K (pc + 1) ls (.int (xsz i.toNatClampNeg) :: r) h
    | .int i :: .retAddr 4 :: r => vp_in i X.1 ∧ K (pc + 1) ls (.int (X.2 i.toNatClampNeg) :: r) h
    | _ => False
  | .baload => match st with
    | .int i :: .ref a :: r => xar (hg h a) 2 fun n g => vp_in i n ∧ K (pc + 1) ls (.int (g i.toNatClampNeg) :: r) h
    | .int i :: .retAddr 1 :: r => vp_in i 91 ∧ K (pc + 1) ls (.int (xby i.toNatClampNeg) :: r) h
    | _ => False
  | .caload => match st with
    | .int i :: .ref a :: r => xar (hg h a) 1 fun n g => vp_in i n ∧ K (pc + 1) ls (.int (g i.toNatClampNeg) :: r) h
    | _ => False
  | .aaload => match st with
    | .int i :: .ref a :: r => xaq (hg h a) fun n g => vp_in i n ∧ K (pc + 1) ls (va_rf (g i.toNatClampNeg) :: r) h
    | _ => False
  | .iastore => match st with
    | .int x :: .int i :: .ref a :: r => xar (hg h a) 0 fun n g => vp_in i n ∧ K (pc + 1) ls r (xset h a (.inl (0, n, .inl (upd g i.toNatClampNeg x))))
    | _ => False
  | .bastore => match st with
    | .int x :: .int i :: .ref a :: r => xar (hg h a) 2 fun n g => vp_in i n ∧ K (pc + 1) ls r (xset h a (.inl (2, n, .inl (upd g i.toNatClampNeg (vp_nar .boolean x)))))
    | _ => False
  | .castore => match st with
    | .int x :: .int i :: .ref a :: r => xar (hg h a) 1 fun n g => vp_in i n ∧ K (pc + 1) ls r (xset h a (.inl (1, n, .inl (upd g i.toNatClampNeg (vp_nar .char x)))))
    | _ => False
  | .aastore => match st with
    | .ref x :: .int i :: .ref a :: r => xaq (hg h a) fun n g => vp_in i n ∧ xob (hg h x) 3 fun _ => K (pc + 1) ls r (xset h a (.inl (3, n, .inr (va_up g i.toNatClampNeg (some x)))))
    | _ => False
  | .arraylength => match st with
    | .retAddr 1 :: r => K (pc + 1) ls (.int 91 :: r) h
    | .retAddr 2 :: r => K (pc + 1) ls (.int 8 :: r) h
    | .retAddr 4 :: r => K (pc + 1) ls (.int (Int32.ofNat X.1) :: r) h
    | _ => False
  | .invokevirtual _ => match nf with
    | m2 :: n :: _ => xv1 (st.drop n) fun b r => xcat r ≤ 8 ∧ (match b with
      | .ref a => xob (hg h a) (xmc m2) fun _ => True
      | .retAddr 0 => xmc m2 = 8
      | _ => False) ∧ ∃ v h1, C m2 (b :: (st.take n).reverse) h v h1 ∧ K (pc + 3) ls (v.toList ++ r) h1
    | _ => False
  | .invokestatic _ => match nf with
    | [k, _, _, _, _] => if k = 0 then xi2 st fun x y r => xcat r ≤ 8 ∧ K (pc + 3) ls (.int (if x < y then y else x) :: r) h else xi1 st fun x r => xcat r ≤ 8 ∧ K (pc + 3) ls (.int (if 0 ≤ x then x else 0 - x) :: r) h
    | m2 :: n :: _ => xcat (st.drop n) ≤ 8 ∧ n ≤ st.length ∧ ∃ v h1, C m2 (st.take n).reverse h v h1 ∧ K (pc + 3) ls (v.toList ++ st.drop n) h1
    | _ => False
  | .invokespecial _ => match nf with
    | [_, _, _, _] => xr1 st fun _ r => xcat r ≤ 8 ∧ K (pc + 3) ls r h
    | m2 :: n :: _ => xr1 (st.drop n) fun b r => xcat r ≤ 8 ∧ ∃ h1, C m2 (.ref b :: (st.take n).reverse) h none h1 ∧ K (pc + 3) ls r h1
    | _ => False
  | .ireturn => match st with
    | [.int v] => xrt m v ∧ Q (some (.int v)) h
    | _ => False
  | .return_ => match st with
    | [] => xmr m = none ∧ Q none h
    | _ => False
  | _ => False
def xstep (X : Nat × (Nat → Int32)) (C : Nat → List Value → xHp → Option Value → xHp → Prop) (m : Nat) (Q : Option Value → xHp → Prop) (P : Nat → List Value → List Value → xHp → Prop) (pc : Nat) (ls st : List Value) (h : xHp) : Prop := match xCD m pc with
  | some (i, nf) => stp X C m i nf pc ls st h P Q
  | none => False
/-- from here the method ends, with Q -/
def RUN (X : Nat × (Nat → Int32)) (C : Nat → List Value → xHp → Option Value → xHp → Prop) (m : Nat) (Q : Option Value → xHp → Prop) (pc : Nat) (ls st : List Value) (h : xHp) : Prop :=
  ∀ P : Nat → List Value → List Value → xHp → Prop, (∀ pc ls st h, xstep X C m Q P pc ls st h → P pc ls st h) → P pc ls st h
def xarg (args : List Value) : List Value := args.flatMap fun v => if v.category = 2 then [v, .double 0] else [v]
def xini (m : Nat) (args : List Value) : List Value := xarg args ++ List.replicate (xml m - (xarg args).length) (.double 0)
/-- method m, called with args over the cells h, answers v and leaves the cells h', calls at most d deep -/
def EV (X : Nat × (Nat → Int32)) : Nat → Nat → List Value → xHp → Option Value → xHp → Prop
  | 0 => fun _ _ _ _ _ => False
  | d + 1 => fun m args h v h' => (xarg args).length ≤ xml m ∧ RUN X (EV X d) m (fun v1 h1 => v1 = v ∧ h1 = h') 0 (xini m args) [] h
