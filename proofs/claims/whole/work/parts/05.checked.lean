/-! The tables hold: each row of code is decoded so, and the words that it needs are among the tables' words. -/
def ilen : Instr → Nat
  | .bipush _ => 2
  | .sipush _ => 3
  | .ldc _ => 2
  | .ldc2_w _ => 3
  | .iload _ => 2
  | .lload _ => 2
  | .aload _ => 2
  | .istore _ => 2
  | .lstore _ => 2
  | .astore _ => 2
  | .iinc _ _ => 3
  | .ifCond _ _ => 3
  | .if_icmp _ _ => 3
  | .goto _ => 3
  | .ifnonnull _ => 3
  | .getfield _ => 3
  | .putfield _ => 3
  | .getstatic _ => 3
  | .new _ => 3
  | .newarray _ => 2
  | .anewarray _ => 3
  | .invokevirtual _ => 3
  | .invokestatic _ => 3
  | .invokespecial _ => 3
  | .tableswitch _ _ _ _ => 0
  | _ => 1
def okw (i : Nat) (c : Cond) : Bool := decide (lw_tbl[i]? = some c) && goodWord c
theorem okw_of {i : Nat} {c : Cond} (h : okw i c = true) : c ∈ xTB := by
  unfold okw at h
  simp only [Bool.and_eq_true, decide_eq_true_eq] at h
  exact xTB_of i h.1 h.2
def okd (m pc : Nat) (i : Instr) : Bool := match decode (xmb m) pc with
  | .ok (j, n) => decide (j = i) && (ilen i == 0 || n == ilen i)
  | _ => false
theorem okd_of {m pc : Nat} {i : Instr} (h : okd m pc i = true) : ∃ n, decode (xmb m) pc = .ok (i, n) ∧ (ilen i = 0 ∨ n = ilen i) := by
  unfold okd at h
  split at h
  · rename_i j n e
    simp only [Bool.and_eq_true, decide_eq_true_eq, Bool.or_eq_true, beq_iff_eq] at h
    obtain ⟨rfl, h⟩ := h
    exact ⟨n, e, h⟩
  · cases h
def okt (pc : Nat) (off : Int) (nf : List Nat) : Bool := match nf with
  | [t] => decide ((pc : Int) + off = (t : Int))
  | _ => false
/-- what a call of method m2 wants: its link (a nest mate's is among xnests), its kind, its class made, its code -/
def okl (own : String) (idx m2 nest wl : Nat) : Bool := if nest = 0 then okw wl (.methodLink own idx (xmn m2)) else decide (xnests[wl]? = some (.methodLinkNest own idx (xmn m2) "PaintedTown"))
def okc (m2 n wini wcode : Nat) : Bool := okw wini (.initialized (xmn m2).cls) && okw wcode (.code (xmn m2) (xmb m2) (xml m2) (xmr m2)) && decide ((xmn m2).cls ≠ "java/lang/invoke/MethodHandle") && decide ((xmn m2).cls ≠ "java/lang/invoke/VarHandle") && decide ((parseMethodDescriptor (xmn m2).desc).map (fun d => d.parameters.length) = some n) && decide (xml m2 ≤ 20)
def okf (own : String) (idx ci k w : Nat) : Bool := match xcls[ci]? with
  | some (C, T, N) => decide (k < N) && okw w (.fieldLink own idx C (T k).2.1 (T k).2.2.1)
  | none => false
def chk (m : Nat) (e : Nat × Instr × List Nat) : Bool := okd m e.1 e.2.1 && match e.2.1, e.2.2 with
  | .ifCond _ off, nf => okt e.1 off nf
  | .if_icmp _ off, nf => okt e.1 off nf
  | .goto off, nf => okt e.1 off nf
  | .ifnonnull off, nf => okt e.1 off nf
  | .tableswitch d lo hi offs, t :: ts => decide ((e.1 : Int) + d = (t : Int)) && decide ((offs.toList.map fun o => (e.1 : Int) + o) = ts.map fun t => (t : Int)) && decide ((hi - lo + 1 : Int) = (ts.length : Int))
  | .getfield idx, [ci, k, w] => okf (xmn m).cls idx ci k w
  | .getfield idx, [k, w] => okw w (if k = 0 then .fieldLink (xmn m).cls idx "java/lang/String" "value" "[B" else .fieldLink (xmn m).cls idx "java/lang/String" "coder" "B")
  | .putfield idx, [ci, k, w] => okf (xmn m).cls idx ci k w && match xcls[ci]? with
    | some (C, T, _) => !(T k).2.2.2 || (decide ((xmn m).name = "<init>") && decide (C = (xmn m).cls))
    | none => false
  | .getstatic idx, [0, w] => okw w (.fieldLink (xmn m).cls idx "PaintedTown" "SIZES" "[I")
  | .getstatic idx, [1, w] => okw w (.fieldLink (xmn m).cls idx "java/lang/String" "COMPACT_STRINGS" "Z")
  | .getstatic idx, [2, w] => okw w (.fieldLink (xmn m).cls idx "jdk/internal/util/Preconditions" "SIOOBE_FORMATTER" "Ljava/util/function/BiFunction;")
  | .new idx, [ci, w1, w2, w3] => match xcls[ci]? with
    | some (C, _, N) => okw w1 (.classLink (xmn m).cls idx C) && okw w2 (.instantiable C N) && okw w3 (.initialized C)
    | none => false
  | .newarray at, [t, w] => decide ((t = 0 ∧ at = .int) ∨ (t = 1 ∧ at = .char) ∨ (t = 2 ∧ at = .boolean)) && okw w (.arrayClass (newarray.typeOf at))
  | .anewarray idx, [3, w] => okw w (.classLink (xmn m).cls idx "PaintedTown$Town")
  | .ldc idx, [0, _] => decide (idx = 78) && decide ((xmn m).cls = "PaintedTown")
  | .ldc idx, [1, v, w] => okw w (.constant (xmn m).cls idx (Int32.ofNat v))
  | .ldc2_w idx, [v, w] => okw w (.constantLong (xmn m).cls idx (Int64.ofNat v))
  | .invokevirtual idx, [m2, n, nest, wl, wi, wini, wcode, wsel] => decide (nest = 0) && okl (xmn m).cls idx m2 nest wl && okc m2 n wini wcode && okw wi (.instanceMethod (xmn m2)) && okw wsel (.selects (xmn m2).cls (xmn m2) (xmn m2)) && (if xmc m2 = 8 then decide ((xmn m2).cls = "java/lang/String") else match xcls[xmc m2]? with
    | some (C, _, _) => decide ((xmn m2).cls = C)
    | none => false)
  | .invokestatic idx, [m2, n, nest, wl, wst, wini, wcode] => okl (xmn m).cls idx m2 nest wl && okc m2 n wini wcode && okw wst (.static (xmn m2))
  | .invokespecial idx, [m2, n, nest, wl, wi, wini, wcode] => okl (xmn m).cls idx m2 nest wl && okc m2 n wini wcode && okw wi (.instanceMethod (xmn m2)) && decide ((xmn m2).name = "<init>") && decide (xmr m2 = none)
  | .invokespecial idx, [_, wl, wi, wcode] => okw wl (.methodLink (xmn m).cls idx objectInit) && okw wi (.instanceMethod objectInit) && okw wcode (.code objectInit ⟨#[0xb1]⟩ 1 none)
  | .getfield _, _ => false
  | .putfield _, _ => false
  | .getstatic _, _ => true
  | .new _, _ => true
  | .newarray _, _ => false
  | .anewarray _, _ => false
  | .ldc _, _ => false
  | .ldc2_w _, _ => false
  | .invokevirtual _, _ => false
  | .invokestatic _, nf => decide (nf = [])
  | .invokespecial _, nf => decide (nf = [])
  | .tableswitch _ _ _ _, _ => false
  | _, _ => true
set_option maxRecDepth 100000 in
theorem xck0 : xt0.all (chk 0) = true := by decide +kernel
set_option maxRecDepth 100000 in
theorem xck1 : xt1.all (chk 1) = true := by decide +kernel
set_option maxRecDepth 100000 in
theorem xck2 : xt2.all (chk 2) = true := by decide +kernel
set_option maxRecDepth 100000 in
theorem xck3 : xt3.all (chk 3) = true := by decide +kernel
set_option maxRecDepth 100000 in
theorem xck4 : xt4.all (chk 4) = true := by decide +kernel
set_option maxRecDepth 100000 in
theorem xck5 : xt5.all (chk 5) = true := by decide +kernel
set_option maxRecDepth 100000 in
theorem xck6 : xt6.all (chk 6) = true := by decide +kernel
set_option maxRecDepth 100000 in
theorem xck7 : xt7.all (chk 7) = true := by decide +kernel
set_option maxRecDepth 100000 in
theorem xck8 : xt8.all (chk 8) = true := by decide +kernel
set_option maxRecDepth 100000 in
theorem xck9 : xt9.all (chk 9) = true := by decide +kernel
set_option maxRecDepth 100000 in
theorem xck10 : xt10.all (chk 10) = true := by decide +kernel
set_option maxRecDepth 100000 in
theorem xck11 : xt11.all (chk 11) = true := by decide +kernel
set_option maxRecDepth 100000 in
theorem xck12 : xt12.all (chk 12) = true := by decide +kernel
set_option maxRecDepth 100000 in
theorem xck13 : xt13.all (chk 13) = true := by decide +kernel
set_option maxRecDepth 100000 in
theorem xck14 : xt14.all (chk 14) = true := by decide +kernel
set_option maxRecDepth 100000 in
theorem xck15 : xt15.all (chk 15) = true := by decide +kernel
set_option maxRecDepth 100000 in
theorem xck16 : xt16.all (chk 16) = true := by decide +kernel
set_option maxRecDepth 100000 in
theorem xck17 : xt17.all (chk 17) = true := by decide +kernel
set_option maxRecDepth 100000 in
theorem xck18 : xt18.all (chk 18) = true := by decide +kernel
set_option maxRecDepth 100000 in
theorem xck19 : xt19.all (chk 19) = true := by decide +kernel
set_option maxRecDepth 100000 in
theorem xck20 : xt20.all (chk 20) = true := by decide +kernel
set_option maxRecDepth 100000 in
theorem xck21 : xt21.all (chk 21) = true := by decide +kernel
set_option maxRecDepth 100000 in
theorem xck22 : xt22.all (chk 22) = true := by decide +kernel
set_option maxRecDepth 100000 in
theorem xck23 : xt23.all (chk 23) = true := by decide +kernel
set_option maxRecDepth 100000 in
theorem xck24 : xt24.all (chk 24) = true := by decide +kernel
set_option maxRecDepth 100000 in
theorem xck25 : xt25.all (chk 25) = true := by decide +kernel
set_option maxRecDepth 100000 in
theorem xck26 : xt26.all (chk 26) = true := by decide +kernel
set_option maxRecDepth 100000 in
theorem xck27 : xt27.all (chk 27) = true := by decide +kernel
set_option maxRecDepth 100000 in
theorem xck28 : xt28.all (chk 28) = true := by decide +kernel
set_option maxRecDepth 100000 in
theorem xck29 : xt29.all (chk 29) = true := by decide +kernel
set_option maxRecDepth 100000 in
theorem xck30 : xt30.all (chk 30) = true := by decide +kernel
set_option maxRecDepth 100000 in
theorem xck31 : xt31.all (chk 31) = true := by decide +kernel
set_option maxRecDepth 100000 in
theorem xck32 : xt32.all (chk 32) = true := by decide +kernel
set_option maxRecDepth 100000 in
theorem xck33 : xt33.all (chk 33) = true := by decide +kernel
set_option maxRecDepth 100000 in
theorem xck34 : xt34.all (chk 34) = true := by decide +kernel
set_option maxRecDepth 100000 in
theorem xck35 : xt35.all (chk 35) = true := by decide +kernel
set_option maxRecDepth 100000 in
theorem xck36 : xt36.all (chk 36) = true := by decide +kernel
set_option maxRecDepth 100000 in
theorem xck37 : xt37.all (chk 37) = true := by decide +kernel
set_option maxRecDepth 100000 in
theorem xck38 : xt38.all (chk 38) = true := by decide +kernel
set_option maxRecDepth 100000 in
theorem xck39 : xt39.all (chk 39) = true := by decide +kernel
set_option maxRecDepth 100000 in
theorem xck40 : xt40.all (chk 40) = true := by decide +kernel
set_option maxRecDepth 100000 in
theorem xck41 : xt41.all (chk 41) = true := by decide +kernel
set_option maxRecDepth 100000 in
theorem xck42 : xt42.all (chk 42) = true := by decide +kernel
set_option maxRecDepth 100000 in
theorem xck43 : xt43.all (chk 43) = true := by decide +kernel
set_option maxRecDepth 100000 in
theorem xck44 : xt44.all (chk 44) = true := by decide +kernel
set_option maxRecDepth 100000 in
theorem xck45 : xt45.all (chk 45) = true := by decide +kernel
set_option maxRecDepth 100000 in
theorem xck46 : xt46.all (chk 46) = true := by decide +kernel
set_option maxRecDepth 100000 in
theorem xck47 : xt47.all (chk 47) = true := by decide +kernel
set_option maxRecDepth 100000 in
theorem xck48 : xt48.all (chk 48) = true := by decide +kernel
set_option maxRecDepth 100000 in
theorem xck49 : xt49.all (chk 49) = true := by decide +kernel
set_option maxRecDepth 100000 in
theorem xck50 : xt50.all (chk 50) = true := by decide +kernel
set_option maxRecDepth 100000 in
theorem xck51 : xt51.all (chk 51) = true := by decide +kernel
set_option maxRecDepth 100000 in
theorem xck52 : xt52.all (chk 52) = true := by decide +kernel
set_option maxRecDepth 100000 in
theorem xck53 : xt53.all (chk 53) = true := by decide +kernel
set_option maxRecDepth 100000 in
theorem xck54 : xt54.all (chk 54) = true := by decide +kernel
set_option maxRecDepth 100000 in
theorem xck55 : xt55.all (chk 55) = true := by decide +kernel
set_option maxRecDepth 100000 in
theorem xck56 : xt56.all (chk 56) = true := by decide +kernel
set_option maxRecDepth 100000 in
theorem xck57 : xt57.all (chk 57) = true := by decide +kernel
set_option maxRecDepth 100000 in
theorem xck58 : xt58.all (chk 58) = true := by decide +kernel
set_option maxRecDepth 100000 in
theorem xck59 : xt59.all (chk 59) = true := by decide +kernel
set_option maxRecDepth 100000 in
theorem xck60 : xt60.all (chk 60) = true := by decide +kernel
set_option maxRecDepth 100000 in
theorem xck61 : xt61.all (chk 61) = true := by decide +kernel
set_option maxRecDepth 100000 in
theorem xck62 : xt62.all (chk 62) = true := by decide +kernel
set_option maxRecDepth 100000 in
theorem xck63 : xt63.all (chk 63) = true := by decide +kernel
set_option maxRecDepth 100000 in
theorem xck64 : xt64.all (chk 64) = true := by decide +kernel
set_option maxRecDepth 100000 in
theorem xck65 : xt65.all (chk 65) = true := by decide +kernel
set_option maxRecDepth 100000 in
theorem xck66 : xt66.all (chk 66) = true := by decide +kernel
set_option maxRecDepth 100000 in
theorem xck67 : xt67.all (chk 67) = true := by decide +kernel
set_option maxRecDepth 100000 in
theorem xck68 : xt68.all (chk 68) = true := by decide +kernel
set_option maxRecDepth 100000 in
theorem xck69 : xt69.all (chk 69) = true := by decide +kernel
set_option maxRecDepth 100000 in
theorem xck70 : xt70.all (chk 70) = true := by decide +kernel
set_option maxRecDepth 100000 in
theorem xck71 : xt71.all (chk 71) = true := by decide +kernel
set_option maxRecDepth 100000 in
theorem xck72 : xt72.all (chk 72) = true := by decide +kernel
set_option maxRecDepth 100000 in
theorem xck73 : xt73.all (chk 73) = true := by decide +kernel
set_option maxRecDepth 100000 in
theorem xck74 : xt74.all (chk 74) = true := by decide +kernel
set_option maxRecDepth 100000 in
theorem xck75 : xt75.all (chk 75) = true := by decide +kernel
set_option maxRecDepth 100000 in
theorem xck76 : xt76.all (chk 76) = true := by decide +kernel
set_option maxRecDepth 100000 in
theorem xck77 : xt77.all (chk 77) = true := by decide +kernel
set_option maxRecDepth 100000 in
theorem xck78 : xt78.all (chk 78) = true := by decide +kernel
set_option maxRecDepth 100000 in
theorem xck79 : xt79.all (chk 79) = true := by decide +kernel
set_option maxRecDepth 100000 in
theorem xck80 : xt80.all (chk 80) = true := by decide +kernel
set_option maxRecDepth 100000 in
theorem xck81 : xt81.all (chk 81) = true := by decide +kernel
set_option maxRecDepth 100000 in
theorem xck82 : xt82.all (chk 82) = true := by decide +kernel
set_option maxRecDepth 100000 in
theorem xck83 : xt83.all (chk 83) = true := by decide +kernel
set_option maxRecDepth 100000 in
theorem xck84 : xt84.all (chk 84) = true := by decide +kernel
set_option maxRecDepth 100000 in
theorem xck85 : xt85.all (chk 85) = true := by decide +kernel
set_option maxRecDepth 100000 in
theorem xck86 : xt86.all (chk 86) = true := by decide +kernel
set_option maxRecDepth 100000 in
theorem xck87 : xt87.all (chk 87) = true := by decide +kernel
set_option maxRecDepth 100000 in
theorem xck88 : xt88.all (chk 88) = true := by decide +kernel
set_option maxRecDepth 100000 in
theorem xck89 : xt89.all (chk 89) = true := by decide +kernel
set_option maxRecDepth 100000 in
theorem xck90 : xt90.all (chk 90) = true := by decide +kernel
set_option maxRecDepth 100000 in
theorem xck91 : xt91.all (chk 91) = true := by decide +kernel
set_option maxRecDepth 100000 in
theorem xck92 : xt92.all (chk 92) = true := by decide +kernel
set_option maxRecDepth 100000 in
theorem xck93 : xt93.all (chk 93) = true := by decide +kernel
set_option maxRecDepth 100000 in
theorem xck94 : xt94.all (chk 94) = true := by decide +kernel
set_option maxRecDepth 100000 in
theorem xck95 : xt95.all (chk 95) = true := by decide +kernel
set_option maxRecDepth 100000 in
theorem xck96 : xt96.all (chk 96) = true := by decide +kernel
set_option maxRecDepth 100000 in
theorem xck97 : xt97.all (chk 97) = true := by decide +kernel
set_option maxRecDepth 100000 in
theorem xck98 : xt98.all (chk 98) = true := by decide +kernel
set_option maxRecDepth 100000 in
theorem xck99 : xt99.all (chk 99) = true := by decide +kernel
set_option maxRecDepth 100000 in
theorem xck100 : xt100.all (chk 100) = true := by decide +kernel
set_option maxRecDepth 100000 in
theorem xck101 : xt101.all (chk 101) = true := by decide +kernel
set_option maxRecDepth 100000 in
theorem xck102 : xt102.all (chk 102) = true := by decide +kernel
set_option maxRecDepth 100000 in
theorem xck103 : xt103.all (chk 103) = true := by decide +kernel
set_option maxRecDepth 100000 in
theorem xck104 : xt104.all (chk 104) = true := by decide +kernel
set_option maxRecDepth 100000 in
theorem xck105 : xt105.all (chk 105) = true := by decide +kernel
set_option maxRecDepth 100000 in
theorem xck106 : xt106.all (chk 106) = true := by decide +kernel
set_option maxRecDepth 100000 in
theorem xck107 : xt107.all (chk 107) = true := by decide +kernel
set_option maxRecDepth 100000 in
theorem xck108 : xt108.all (chk 108) = true := by decide +kernel
set_option maxRecDepth 100000 in
theorem xck109 : xt109.all (chk 109) = true := by decide +kernel
set_option maxRecDepth 100000 in
theorem xck110 : xt110.all (chk 110) = true := by decide +kernel
set_option maxRecDepth 100000 in
theorem xck111 : xt111.all (chk 111) = true := by decide +kernel
set_option maxRecDepth 100000 in
theorem xck112 : xt112.all (chk 112) = true := by decide +kernel
set_option maxRecDepth 100000 in
theorem xck113 : xt113.all (chk 113) = true := by decide +kernel
set_option maxRecDepth 100000 in
theorem xck114 : xt114.all (chk 114) = true := by decide +kernel
set_option maxRecDepth 100000 in
theorem xck115 : xt115.all (chk 115) = true := by decide +kernel
set_option maxRecDepth 100000 in
theorem xck116 : xt116.all (chk 116) = true := by decide +kernel
set_option maxRecDepth 100000 in
theorem xck117 : xt117.all (chk 117) = true := by decide +kernel
set_option maxRecDepth 100000 in
theorem xck118 : xt118.all (chk 118) = true := by decide +kernel
set_option maxRecDepth 100000 in
theorem xck119 : xt119.all (chk 119) = true := by decide +kernel
set_option maxRecDepth 100000 in
theorem xck120 : xt120.all (chk 120) = true := by decide +kernel
set_option maxRecDepth 100000 in
theorem xck121 : xt121.all (chk 121) = true := by decide +kernel
set_option maxRecDepth 100000 in
theorem xck122 : xt122.all (chk 122) = true := by decide +kernel
set_option maxRecDepth 100000 in
theorem xck123 : xt123.all (chk 123) = true := by decide +kernel
set_option maxRecDepth 100000 in
theorem xck124 : xt124.all (chk 124) = true := by decide +kernel
set_option maxRecDepth 100000 in
theorem xck125 : xt125.all (chk 125) = true := by decide +kernel
set_option maxRecDepth 100000 in
theorem xck126 : xt126.all (chk 126) = true := by decide +kernel
set_option maxRecDepth 100000 in
theorem xck127 : xt127.all (chk 127) = true := by decide +kernel
set_option maxRecDepth 100000 in
theorem xck128 : xt128.all (chk 128) = true := by decide +kernel
set_option maxRecDepth 100000 in
theorem xck129 : xt129.all (chk 129) = true := by decide +kernel
set_option maxRecDepth 100000 in
theorem xck130 : xt130.all (chk 130) = true := by decide +kernel
set_option maxRecDepth 100000 in
theorem xck131 : xt131.all (chk 131) = true := by decide +kernel
set_option maxRecDepth 100000 in
theorem xck132 : xt132.all (chk 132) = true := by decide +kernel
set_option maxRecDepth 100000 in
theorem xck133 : xt133.all (chk 133) = true := by decide +kernel
set_option maxRecDepth 100000 in
theorem xck134 : xt134.all (chk 134) = true := by decide +kernel
set_option maxRecDepth 100000 in
theorem xck135 : xt135.all (chk 135) = true := by decide +kernel
set_option maxRecDepth 100000 in
theorem xck136 : xt136.all (chk 136) = true := by decide +kernel
set_option maxRecDepth 100000 in
theorem xck137 : xt137.all (chk 137) = true := by decide +kernel
set_option maxRecDepth 100000 in
theorem xck138 : xt138.all (chk 138) = true := by decide +kernel
set_option maxRecDepth 100000 in
theorem xck139 : xt139.all (chk 139) = true := by decide +kernel
set_option maxRecDepth 100000 in
theorem xck140 : xt140.all (chk 140) = true := by decide +kernel
set_option maxRecDepth 100000 in
theorem xck141 : xt141.all (chk 141) = true := by decide +kernel
set_option maxRecDepth 100000 in
theorem xck142 : xt142.all (chk 142) = true := by decide +kernel
set_option maxRecDepth 100000 in
theorem xck143 : xt143.all (chk 143) = true := by decide +kernel
set_option maxRecDepth 100000 in
theorem xck144 : xt144.all (chk 144) = true := by decide +kernel
set_option maxRecDepth 100000 in
theorem xck145 : xt145.all (chk 145) = true := by decide +kernel
set_option maxRecDepth 100000 in
theorem xck146 : xt146.all (chk 146) = true := by decide +kernel
set_option maxRecDepth 100000 in
theorem xck147 : xt147.all (chk 147) = true := by decide +kernel
set_option maxRecDepth 100000 in
theorem xck148 : xt148.all (chk 148) = true := by decide +kernel
set_option maxRecDepth 100000 in
theorem xck149 : xt149.all (chk 149) = true := by decide +kernel
set_option maxRecDepth 100000 in
theorem xck150 : xt150.all (chk 150) = true := by decide +kernel
set_option maxRecDepth 100000 in
theorem xck151 : xt151.all (chk 151) = true := by decide +kernel
set_option maxRecDepth 100000 in
theorem xck152 : xt152.all (chk 152) = true := by decide +kernel
set_option maxRecDepth 100000 in
theorem xck153 : xt153.all (chk 153) = true := by decide +kernel
set_option maxRecDepth 100000 in
theorem xck154 : xt154.all (chk 154) = true := by decide +kernel
set_option maxRecDepth 100000 in
theorem xck155 : xt155.all (chk 155) = true := by decide +kernel
set_option maxRecDepth 100000 in
theorem xck156 : xt156.all (chk 156) = true := by decide +kernel
set_option maxRecDepth 100000 in
theorem xck157 : xt157.all (chk 157) = true := by decide +kernel
set_option maxRecDepth 100000 in
theorem xck158 : xt158.all (chk 158) = true := by decide +kernel
set_option maxRecDepth 100000 in
theorem xck159 : xt159.all (chk 159) = true := by decide +kernel
set_option maxRecDepth 100000 in
theorem xck160 : xt160.all (chk 160) = true := by decide +kernel
set_option maxRecDepth 100000 in
theorem xck161 : xt161.all (chk 161) = true := by decide +kernel
set_option maxRecDepth 100000 in
theorem xck162 : xt162.all (chk 162) = true := by decide +kernel
set_option maxRecDepth 100000 in
theorem xck163 : xt163.all (chk 163) = true := by decide +kernel
set_option maxRecDepth 100000 in
theorem xck164 : xt164.all (chk 164) = true := by decide +kernel
set_option maxRecDepth 100000 in
theorem xck165 : xt165.all (chk 165) = true := by decide +kernel
set_option maxRecDepth 100000 in
theorem xck166 : xt166.all (chk 166) = true := by decide +kernel
set_option maxRecDepth 100000 in
theorem xck167 : xt167.all (chk 167) = true := by decide +kernel
set_option maxRecDepth 100000 in
theorem xck168 : xt168.all (chk 168) = true := by decide +kernel
set_option maxRecDepth 100000 in
theorem xck169 : xt169.all (chk 169) = true := by decide +kernel
set_option maxRecDepth 100000 in
theorem xck170 : xt170.all (chk 170) = true := by decide +kernel
set_option maxRecDepth 100000 in
theorem xck171 : xt171.all (chk 171) = true := by decide +kernel
theorem xck_all : ∀ (m : Nat) (l : List (Nat × Instr × List Nat)), xMT[m]? = some l → l.all (chk m) = true := by
  intro m l h
  match m, h with
  | 0, h => exact Option.some.inj h ▸ xck0
  | 1, h => exact Option.some.inj h ▸ xck1
  | 2, h => exact Option.some.inj h ▸ xck2
  | 3, h => exact Option.some.inj h ▸ xck3
  | 4, h => exact Option.some.inj h ▸ xck4
  | 5, h => exact Option.some.inj h ▸ xck5
  | 6, h => exact Option.some.inj h ▸ xck6
  | 7, h => exact Option.some.inj h ▸ xck7
  | 8, h => exact Option.some.inj h ▸ xck8
  | 9, h => exact Option.some.inj h ▸ xck9
  | 10, h => exact Option.some.inj h ▸ xck10
  | 11, h => exact Option.some.inj h ▸ xck11
  | 12, h => exact Option.some.inj h ▸ xck12
  | 13, h => exact Option.some.inj h ▸ xck13
  | 14, h => exact Option.some.inj h ▸ xck14
  | 15, h => exact Option.some.inj h ▸ xck15
  | 16, h => exact Option.some.inj h ▸ xck16
  | 17, h => exact Option.some.inj h ▸ xck17
  | 18, h => exact Option.some.inj h ▸ xck18
  | 19, h => exact Option.some.inj h ▸ xck19
  | 20, h => exact Option.some.inj h ▸ xck20
  | 21, h => exact Option.some.inj h ▸ xck21
  | 22, h => exact Option.some.inj h ▸ xck22
  | 23, h => exact Option.some.inj h ▸ xck23
  | 24, h => exact Option.some.inj h ▸ xck24
  | 25, h => exact Option.some.inj h ▸ xck25
  | 26, h => exact Option.some.inj h ▸ xck26
  | 27, h => exact Option.some.inj h ▸ xck27
  | 28, h => exact Option.some.inj h ▸ xck28
  | 29, h => exact Option.some.inj h ▸ xck29
  | 30, h => exact Option.some.inj h ▸ xck30
  | 31, h => exact Option.some.inj h ▸ xck31
  | 32, h => exact Option.some.inj h ▸ xck32
  | 33, h => exact Option.some.inj h ▸ xck33
  | 34, h => exact Option.some.inj h ▸ xck34
  | 35, h => exact Option.some.inj h ▸ xck35
  | 36, h => exact Option.some.inj h ▸ xck36
  | 37, h => exact Option.some.inj h ▸ xck37
  | 38, h => exact Option.some.inj h ▸ xck38
  | 39, h => exact Option.some.inj h ▸ xck39
  | 40, h => exact Option.some.inj h ▸ xck40
  | 41, h => exact Option.some.inj h ▸ xck41
  | 42, h => exact Option.some.inj h ▸ xck42
  | 43, h => exact Option.some.inj h ▸ xck43
  | 44, h => exact Option.some.inj h ▸ xck44
  | 45, h => exact Option.some.inj h ▸ xck45
  | 46, h => exact Option.some.inj h ▸ xck46
  | 47, h => exact Option.some.inj h ▸ xck47
  | 48, h => exact Option.some.inj h ▸ xck48
  | 49, h => exact Option.some.inj h ▸ xck49
  | 50, h => exact Option.some.inj h ▸ xck50
  | 51, h => exact Option.some.inj h ▸ xck51
  | 52, h => exact Option.some.inj h ▸ xck52
  | 53, h => exact Option.some.inj h ▸ xck53
  | 54, h => exact Option.some.inj h ▸ xck54
  | 55, h => exact Option.some.inj h ▸ xck55
  | 56, h => exact Option.some.inj h ▸ xck56
  | 57, h => exact Option.some.inj h ▸ xck57
  | 58, h => exact Option.some.inj h ▸ xck58
  | 59, h => exact Option.some.inj h ▸ xck59
  | 60, h => exact Option.some.inj h ▸ xck60
  | 61, h => exact Option.some.inj h ▸ xck61
  | 62, h => exact Option.some.inj h ▸ xck62
  | 63, h => exact Option.some.inj h ▸ xck63
  | 64, h => exact Option.some.inj h ▸ xck64
  | 65, h => exact Option.some.inj h ▸ xck65
  | 66, h => exact Option.some.inj h ▸ xck66
  | 67, h => exact Option.some.inj h ▸ xck67
  | 68, h => exact Option.some.inj h ▸ xck68
  | 69, h => exact Option.some.inj h ▸ xck69
  | 70, h => exact Option.some.inj h ▸ xck70
  | 71, h => exact Option.some.inj h ▸ xck71
  | 72, h => exact Option.some.inj h ▸ xck72
  | 73, h => exact Option.some.inj h ▸ xck73
  | 74, h => exact Option.some.inj h ▸ xck74
  | 75, h => exact Option.some.inj h ▸ xck75
  | 76, h => exact Option.some.inj h ▸ xck76
  | 77, h => exact Option.some.inj h ▸ xck77
  | 78, h => exact Option.some.inj h ▸ xck78
  | 79, h => exact Option.some.inj h ▸ xck79
  | 80, h => exact Option.some.inj h ▸ xck80
  | 81, h => exact Option.some.inj h ▸ xck81
  | 82, h => exact Option.some.inj h ▸ xck82
  | 83, h => exact Option.some.inj h ▸ xck83
  | 84, h => exact Option.some.inj h ▸ xck84
  | 85, h => exact Option.some.inj h ▸ xck85
  | 86, h => exact Option.some.inj h ▸ xck86
  | 87, h => exact Option.some.inj h ▸ xck87
  | 88, h => exact Option.some.inj h ▸ xck88
  | 89, h => exact Option.some.inj h ▸ xck89
  | 90, h => exact Option.some.inj h ▸ xck90
  | 91, h => exact Option.some.inj h ▸ xck91
  | 92, h => exact Option.some.inj h ▸ xck92
  | 93, h => exact Option.some.inj h ▸ xck93
  | 94, h => exact Option.some.inj h ▸ xck94
  | 95, h => exact Option.some.inj h ▸ xck95
  | 96, h => exact Option.some.inj h ▸ xck96
  | 97, h => exact Option.some.inj h ▸ xck97
  | 98, h => exact Option.some.inj h ▸ xck98
  | 99, h => exact Option.some.inj h ▸ xck99
  | 100, h => exact Option.some.inj h ▸ xck100
  | 101, h => exact Option.some.inj h ▸ xck101
  | 102, h => exact Option.some.inj h ▸ xck102
  | 103, h => exact Option.some.inj h ▸ xck103
  | 104, h => exact Option.some.inj h ▸ xck104
  | 105, h => exact Option.some.inj h ▸ xck105
  | 106, h => exact Option.some.inj h ▸ xck106
  | 107, h => exact Option.some.inj h ▸ xck107
  | 108, h => exact Option.some.inj h ▸ xck108
  | 109, h => exact Option.some.inj h ▸ xck109
  | 110, h => exact Option.some.inj h ▸ xck110
  | 111, h => exact Option.some.inj h ▸ xck111
  | 112, h => exact Option.some.inj h ▸ xck112
  | 113, h => exact Option.some.inj h ▸ xck113
  | 114, h => exact Option.some.inj h ▸ xck114
  | 115, h => exact Option.some.inj h ▸ xck115
  | 116, h => exact Option.some.inj h ▸ xck116
  | 117, h => exact Option.some.inj h ▸ xck117
  | 118, h => exact Option.some.inj h ▸ xck118
  | 119, h => exact Option.some.inj h ▸ xck119
  | 120, h => exact Option.some.inj h ▸ xck120
  | 121, h => exact Option.some.inj h ▸ xck121
  | 122, h => exact Option.some.inj h ▸ xck122
  | 123, h => exact Option.some.inj h ▸ xck123
  | 124, h => exact Option.some.inj h ▸ xck124
  | 125, h => exact Option.some.inj h ▸ xck125
  | 126, h => exact Option.some.inj h ▸ xck126
  | 127, h => exact Option.some.inj h ▸ xck127
  | 128, h => exact Option.some.inj h ▸ xck128
  | 129, h => exact Option.some.inj h ▸ xck129
  | 130, h => exact Option.some.inj h ▸ xck130
  | 131, h => exact Option.some.inj h ▸ xck131
  | 132, h => exact Option.some.inj h ▸ xck132
  | 133, h => exact Option.some.inj h ▸ xck133
  | 134, h => exact Option.some.inj h ▸ xck134
  | 135, h => exact Option.some.inj h ▸ xck135
  | 136, h => exact Option.some.inj h ▸ xck136
  | 137, h => exact Option.some.inj h ▸ xck137
  | 138, h => exact Option.some.inj h ▸ xck138
  | 139, h => exact Option.some.inj h ▸ xck139
  | 140, h => exact Option.some.inj h ▸ xck140
  | 141, h => exact Option.some.inj h ▸ xck141
  | 142, h => exact Option.some.inj h ▸ xck142
  | 143, h => exact Option.some.inj h ▸ xck143
  | 144, h => exact Option.some.inj h ▸ xck144
  | 145, h => exact Option.some.inj h ▸ xck145
  | 146, h => exact Option.some.inj h ▸ xck146
  | 147, h => exact Option.some.inj h ▸ xck147
  | 148, h => exact Option.some.inj h ▸ xck148
  | 149, h => exact Option.some.inj h ▸ xck149
  | 150, h => exact Option.some.inj h ▸ xck150
  | 151, h => exact Option.some.inj h ▸ xck151
  | 152, h => exact Option.some.inj h ▸ xck152
  | 153, h => exact Option.some.inj h ▸ xck153
  | 154, h => exact Option.some.inj h ▸ xck154
  | 155, h => exact Option.some.inj h ▸ xck155
  | 156, h => exact Option.some.inj h ▸ xck156
  | 157, h => exact Option.some.inj h ▸ xck157
  | 158, h => exact Option.some.inj h ▸ xck158
  | 159, h => exact Option.some.inj h ▸ xck159
  | 160, h => exact Option.some.inj h ▸ xck160
  | 161, h => exact Option.some.inj h ▸ xck161
  | 162, h => exact Option.some.inj h ▸ xck162
  | 163, h => exact Option.some.inj h ▸ xck163
  | 164, h => exact Option.some.inj h ▸ xck164
  | 165, h => exact Option.some.inj h ▸ xck165
  | 166, h => exact Option.some.inj h ▸ xck166
  | 167, h => exact Option.some.inj h ▸ xck167
  | 168, h => exact Option.some.inj h ▸ xck168
  | 169, h => exact Option.some.inj h ▸ xck169
  | 170, h => exact Option.some.inj h ▸ xck170
  | 171, h => exact Option.some.inj h ▸ xck171
  | n + 172, h => exact absurd h (by simp [xMT])
theorem lookup_mem {α : Type} : ∀ {l : List (Nat × α)} {k : Nat} {v : α}, l.lookup k = some v → (k, v) ∈ l
  | [], _, _, h => by simp at h
  | (a, b) :: l, k, v, h => by
    rw [List.lookup_cons] at h
    split at h
    · rename_i e
      rw [beq_iff_eq] at e
      cases h
      rw [e]
      exact List.mem_cons_self
    · exact List.mem_cons_of_mem _ (lookup_mem h)
theorem xCD_chk {m pc : Nat} {i : Instr} {nf : List Nat} (h : xCD m pc = some (i, nf)) : chk m (pc, i, nf) = true := by
  unfold xCD at h
  cases hm : xMT[m]? with
  | none => rw [List.getD_eq_getElem?_getD, hm] at h; simp at h
  | some l =>
    rw [List.getD_eq_getElem?_getD, hm] at h
    exact List.all_eq_true.mp (xck_all m l hm) _ (lookup_mem h)
