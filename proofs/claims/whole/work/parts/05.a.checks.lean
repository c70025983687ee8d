/-! The tables hold: each row of code is decoded so, and the words that it needs are among the tables' words. -/
def ilen : Instr → Nat
  | .bipush _ => 2
  | .sipush _ => 3
  | .ldc _ => 2
  | .ldc2_w _ => 3
  | .iload _ => 2
  | .lload _ => 2
  | .aload _ => 2
  | .istore _ => 2
  | .lstore _ => 2
  | .astore _ => 2
  | .iinc _ _ => 3
  | .ifCond _ _ => 3
  | .if_icmp _ _ => 3
  | .goto _ => 3
  | .ifnonnull _ => 3
  | .getfield _ => 3
  | .putfield _ => 3
  | .getstatic _ => 3
  | .new _ => 3
  | .newarray _ => 2
  | .anewarray _ => 3
  | .invokevirtual _ => 3
  | .invokestatic _ => 3
  | .invokespecial _ => 3
  | .tableswitch _ _ _ _ => 0
  | _ => 1
def okw (i : Nat) (c : Cond) : Bool := match xch[i / 32]? with
  | some l => decide (l[i % 32]? = some c)
  | none => false
theorem okw_of {i : Nat} {c : Cond} (h : okw i c = true) : c ∈ xTB := by
  unfold okw at h
  split at h
  · rename_i l e
    exact xch_in l (List.mem_of_getElem? e) c (List.mem_of_getElem? (of_decide_eq_true h))
  · cases h
def okd (m pc : Nat) (i : Instr) : Bool := match decode (xmb m) pc with
  | .ok (j, n) => decide (j = i) && (ilen i == 0 || n == ilen i)
  | _ => false
theorem okd_of {m pc : Nat} {i : Instr} (h : okd m pc i = true) : ∃ n, decode (xmb m) pc = .ok (i, n) ∧ (ilen i = 0 ∨ n = ilen i) := by
  unfold okd at h
  split at h
  · rename_i j n e
    simp only [Bool.and_eq_true, decide_eq_true_eq, Bool.or_eq_true, beq_iff_eq] at h
    obtain ⟨rfl, h⟩ := h
    exact ⟨n, e, h⟩
  · cases h
def okt (pc : Nat) (off : Int) (nf : List Nat) : Bool := match nf with
  | [t] => decide ((pc : Int) + off = (t : Int))
  | _ => false
/-- what a call of method m2 wants: its link (a nest mate's is among xnests), its kind, its class made, its code -/
def okl (own : String) (idx m2 nest wl : Nat) : Bool := if nest = 0 then okw wl (.methodLink own idx (xmn m2)) else decide (xnests[wl]? = some (.methodLinkNest own idx (xmn m2) "PaintedTown"))
def okc (m2 n wini wcode : Nat) : Bool := okw wini (.initialized (xmn m2).cls) && okw wcode (.code (xmn m2) (xmb m2) (xml m2) (xmr m2)) && decide ((xmn m2).cls ≠ "java/lang/invoke/MethodHandle") && decide ((xmn m2).cls ≠ "java/lang/invoke/VarHandle") && decide ((parseMethodDescriptor (xmn m2).desc).map (fun d => d.parameters.length) = some n) && decide (xml m2 ≤ 20)
def okf (own : String) (idx ci k w : Nat) : Bool := match xcls[ci]? with
  | some (C, T, N) => decide (k < N) && okw w (.fieldLink own idx C (T k).2.1 (T k).2.2.1)
  | none => false
def chk (m : Nat) (e : Nat × Instr × List Nat) : Bool := okd m e.1 e.2.1 && match e.2.1, e.2.2 with
  | .ifCond _ off, nf => okt e.1 off nf
  | .if_icmp _ off, nf => okt e.1 off nf
  | .goto off, nf => okt e.1 off nf
  | .ifnonnull off, nf => okt e.1 off nf
  | .tableswitch d lo hi offs, t :: ts => decide ((e.1 : Int) + d = (t : Int)) && decide (offs.toList.map (fun o => (e.1 : Int) + o) = List.map (fun (t : Nat) => (t : Int)) ts) && decide ((hi - lo + 1 : Int) = (ts.length : Int))
  | .getfield idx, [ci, k, w] => okf (xmn m).cls idx ci k w
  | .getfield idx, [k, w] => okw w (if k = 0 then .fieldLink (xmn m).cls idx "java/lang/String" "value" "[B" else .fieldLink (xmn m).cls idx "java/lang/String" "coder" "B")
  | .putfield idx, [ci, k, w] => okf (xmn m).cls idx ci k w && match xcls[ci]? with
    | some (C, T, _) => !(T k).2.2.2 || (decide ((xmn m).name = "<init>") && decide (C = (xmn m).cls))
    | none => false
  | .getstatic idx, [0, w] => okw w (.fieldLink (xmn m).cls idx "PaintedTown" "SIZES" "[I")
  | .getstatic idx, [1, w] => okw w (.fieldLink (xmn m).cls idx "java/lang/String" "COMPACT_STRINGS" "Z")
  | .getstatic idx, [2, w] => okw w (.fieldLink (xmn m).cls idx "jdk/internal/util/Preconditions" "SIOOBE_FORMATTER" "Ljava/util/function/BiFunction;")
  | .new idx, [ci, w1, w2, w3] => match xcls[ci]? with
    | some (C, _, N) => okw w1 (.classLink (xmn m).cls idx C) && okw w2 (.instantiable C N) && okw w3 (.initialized C)
    | none => false
  | .newarray aty, [t, w] => decide ((t = 0 ∧ aty = .int) ∨ (t = 1 ∧ aty = .char) ∨ (t = 2 ∧ aty = .boolean)) && okw w (.arrayClass (newarray.typeOf aty))
  | .anewarray idx, [3, w] => okw w (.classLink (xmn m).cls idx "PaintedTown$Town")
  | .ldc idx, [0, _] => decide (idx = 72) && decide ((xmn m).cls = "PaintedTown")
  | .ldc idx, [1, v, w] => okw w (.constant (xmn m).cls idx (Int32.ofNat v))
  | .ldc2_w idx, [v, w] => okw w (.constantLong (xmn m).cls idx (Int64.ofNat v))
  | .invokevirtual idx, [m2, n, nest, wl, wi, wini, wcode, wsel] => okl (xmn m).cls idx m2 nest wl && okc m2 n wini wcode && okw wi (.instanceMethod (xmn m2)) && okw wsel (.selects (xmn m2).cls (xmn m2) (xmn m2)) && (if xmc m2 = 8 then decide ((xmn m2).cls = "java/lang/String") else match xcls[xmc m2]? with
    | some (C, _, _) => decide ((xmn m2).cls = C)
    | none => false)
  | .invokestatic idx, [k, wl, wst, wini, wcode] => if k = 0 then okw wl (.methodLink (xmn m).cls idx Lib.Math.max.name) && okw wst (.static Lib.Math.max.name) && okw wini (.initialized "java/lang/Math") && okw wcode (.code Lib.Math.max.name Lib.Math.max.code 2 (some .int)) else okw wl (.methodLink (xmn m).cls idx Lib.Math.abs.name) && okw wst (.static Lib.Math.abs.name) && okw wini (.initialized "java/lang/Math") && okw wcode (.code Lib.Math.abs.name Lib.Math.abs.code 1 (some .int))
  | .invokestatic idx, [m2, n, nest, wl, wst, wini, wcode] => okl (xmn m).cls idx m2 nest wl && okc m2 n wini wcode && okw wst (.static (xmn m2))
  | .invokespecial idx, [m2, n, nest, wl, wi, wini, wcode] => okl (xmn m).cls idx m2 nest wl && okc m2 n wini wcode && okw wi (.instanceMethod (xmn m2)) && decide ((xmn m2).name = "<init>") && decide (xmr m2 = none)
  | .invokespecial idx, [_, wl, wi, wcode] => okw wl (.methodLink (xmn m).cls idx objectInit) && okw wi (.instanceMethod objectInit) && okw wcode (.code objectInit ⟨#[0xb1]⟩ 1 none)
  | .getfield _, _ => false
  | .putfield _, _ => false
  | .getstatic _, _ => true
  | .new _, _ => true
  | .newarray _, _ => false
  | .anewarray _, _ => false
  | .ldc _, _ => false
  | .ldc2_w _, _ => false
  | .invokevirtual _, _ => false
  | .invokestatic _, nf => decide (nf = [])
  | .invokespecial _, nf => decide (nf = [])
  | .tableswitch _ _ _ _, _ => false
  | _, _ => true
