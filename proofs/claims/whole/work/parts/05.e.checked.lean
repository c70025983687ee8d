set_option maxRecDepth 100000 in
theorem xck140 : xt140.all (chk 140) = true := by decide +kernel
set_option maxRecDepth 100000 in
theorem xck141 : xt141.all (chk 141) = true := by decide +kernel
set_option maxRecDepth 100000 in
theorem xck142 : xt142.all (chk 142) = true := by decide +kernel
set_option maxRecDepth 100000 in
theorem xck143 : xt143.all (chk 143) = true := by decide +kernel
set_option maxRecDepth 100000 in
theorem xck144 : xt144.all (chk 144) = true := by decide +kernel
set_option maxRecDepth 100000 in
theorem xck145 : xt145.all (chk 145) = true := by decide +kernel
set_option maxRecDepth 100000 in
theorem xck146 : xt146.all (chk 146) = true := by decide +kernel
set_option maxRecDepth 100000 in
theorem xck147 : xt147.all (chk 147) = true := by decide +kernel
set_option maxRecDepth 100000 in
theorem xck148 : xt148.all (chk 148) = true := by decide +kernel
set_option maxRecDepth 100000 in
theorem xck149 : xt149.all (chk 149) = true := by decide +kernel
set_option maxRecDepth 100000 in
theorem xck150 : xt150.all (chk 150) = true := by decide +kernel
set_option maxRecDepth 100000 in
theorem xck151 : xt151.all (chk 151) = true := by decide +kernel
set_option maxRecDepth 100000 in
theorem xck152 : xt152.all (chk 152) = true := by decide +kernel
set_option maxRecDepth 100000 in
theorem xck153 : xt153.all (chk 153) = true := by decide +kernel
set_option maxRecDepth 100000 in
theorem xck154 : xt154.all (chk 154) = true := by decide +kernel
set_option maxRecDepth 100000 in
theorem xck155 : xt155.all (chk 155) = true := by decide +kernel
set_option maxRecDepth 100000 in
theorem xck156 : xt156.all (chk 156) = true := by decide +kernel
set_option maxRecDepth 100000 in
theorem xck157 : xt157.all (chk 157) = true := by decide +kernel
set_option maxRecDepth 100000 in
theorem xck158 : xt158.all (chk 158) = true := by decide +kernel
set_option maxRecDepth 100000 in
theorem xck159 : xt159.all (chk 159) = true := by decide +kernel
set_option maxRecDepth 100000 in
theorem xck160 : xt160.all (chk 160) = true := by decide +kernel
set_option maxRecDepth 100000 in
theorem xck161 : xt161.all (chk 161) = true := by decide +kernel
set_option maxRecDepth 100000 in
theorem xck162 : xt162.all (chk 162) = true := by decide +kernel
set_option maxRecDepth 100000 in
theorem xck163 : xt163.all (chk 163) = true := by decide +kernel
set_option maxRecDepth 100000 in
theorem xck164 : xt164.all (chk 164) = true := by decide +kernel
set_option maxRecDepth 100000 in
theorem xck165 : xt165.all (chk 165) = true := by decide +kernel
set_option maxRecDepth 100000 in
theorem xck166 : xt166.all (chk 166) = true := by decide +kernel
set_option maxRecDepth 100000 in
theorem xck167 : xt167.all (chk 167) = true := by decide +kernel
set_option maxRecDepth 100000 in
theorem xck168 : xt168.all (chk 168) = true := by decide +kernel
set_option maxRecDepth 100000 in
theorem xck169 : xt169.all (chk 169) = true := by decide +kernel
set_option maxRecDepth 100000 in
theorem xck170 : xt170.all (chk 170) = true := by decide +kernel
theorem xck_all : ∀ (m : Nat) (l : List (Nat × Instr × List Nat)), xMT[m]? = some l → l.all (chk m) = true := by
  intro m l h
  match m, h with
  | 0, h => exact Option.some.inj h ▸ xck0
  | 1, h => exact Option.some.inj h ▸ xck1
  | 2, h => exact Option.some.inj h ▸ xck2
  | 3, h => exact Option.some.inj h ▸ xck3
  | 4, h => exact Option.some.inj h ▸ xck4
  | 5, h => exact Option.some.inj h ▸ xck5
  | 6, h => exact Option.some.inj h ▸ xck6
  | 7, h => exact Option.some.inj h ▸ xck7
  | 8, h => exact Option.some.inj h ▸ xck8
  | 9, h => exact Option.some.inj h ▸ xck9
  | 10, h => exact Option.some.inj h ▸ xck10
  | 11, h => exact Option.some.inj h ▸ xck11
  | 12, h => exact Option.some.inj h ▸ xck12
  | 13, h => exact Option.some.inj h ▸ xck13
  | 14, h => exact Option.some.inj h ▸ xck14
  | 15, h => exact Option.some.inj h ▸ xck15
  | 16, h => exact Option.some.inj h ▸ xck16
  | 17, h => exact Option.some.inj h ▸ xck17
  | 18, h => exact Option.some.inj h ▸ xck18
  | 19, h => exact Option.some.inj h ▸ xck19
  | 20, h => exact Option.some.inj h ▸ xck20
  | 21, h => exact Option.some.inj h ▸ xck21
  | 22, h => exact Option.some.inj h ▸ xck22
  | 23, h => exact Option.some.inj h ▸ xck23
  | 24, h => exact Option.some.inj h ▸ xck24
  | 25, h => exact Option.some.inj h ▸ xck25
  | 26, h => exact Option.some.inj h ▸ xck26
  | 27, h => exact Option.some.inj h ▸ xck27
  | 28, h => exact Option.some.inj h ▸ xck28
  | 29, h => exact Option.some.inj h ▸ xck29
  | 30, h => exact Option.some.inj h ▸ xck30
  | 31, h => exact Option.some.inj h ▸ xck31
  | 32, h => exact Option.some.inj h ▸ xck32
  | 33, h => exact Option.some.inj h ▸ xck33
  | 34, h => exact Option.some.inj h ▸ xck34
  | 35, h => exact Option.some.inj h ▸ xck35
  | 36, h => exact Option.some.inj h ▸ xck36
  | 37, h => exact Option.some.inj h ▸ xck37
  | 38, h => exact Option.some.inj h ▸ xck38
  | 39, h => exact Option.some.inj h ▸ xck39
  | 40, h => exact Option.some.inj h ▸ xck40
  | 41, h => exact Option.some.inj h ▸ xck41
  | 42, h => exact Option.some.inj h ▸ xck42
  | 43, h => exact Option.some.inj h ▸ xck43
  | 44, h => exact Option.some.inj h ▸ xck44
  | 45, h => exact Option.some.inj h ▸ xck45
  | 46, h => exact Option.some.inj h ▸ xck46
  | 47, h => exact Option.some.inj h ▸ xck47
  | 48, h => exact Option.some.inj h ▸ xck48
  | 49, h => exact Option.some.inj h ▸ xck49
  | 50, h => exact Option.some.inj h ▸ xck50
  | 51, h => exact Option.some.inj h ▸ xck51
  | 52, h => exact Option.some.inj h ▸ xck52
  | 53, h => exact Option.some.inj h ▸ xck53
  | 54, h => exact Option.some.inj h ▸ xck54
  | 55, h => exact Option.some.inj h ▸ xck55
  | 56, h => exact Option.some.inj h ▸ xck56
  | 57, h => exact Option.some.inj h ▸ xck57
  | 58, h => exact Option.some.inj h ▸ xck58
  | 59, h => exact Option.some.inj h ▸ xck59
  | 60, h => exact Option.some.inj h ▸ xck60
  | 61, h => exact Option.some.inj h ▸ xck61
  | 62, h => exact Option.some.inj h ▸ xck62
  | 63, h => exact Option.some.inj h ▸ xck63
  | 64, h => exact Option.some.inj h ▸ xck64
  | 65, h => exact Option.some.inj h ▸ xck65
  | 66, h => exact Option.some.inj h ▸ xck66
  | 67, h => exact Option.some.inj h ▸ xck67
  | 68, h => exact Option.some.inj h ▸ xck68
  | 69, h => exact Option.some.inj h ▸ xck69
  | 70, h => exact Option.some.inj h ▸ xck70
  | 71, h => exact Option.some.inj h ▸ xck71
  | 72, h => exact Option.some.inj h ▸ xck72
  | 73, h => exact Option.some.inj h ▸ xck73
  | 74, h => exact Option.some.inj h ▸ xck74
  | 75, h => exact Option.some.inj h ▸ xck75
  | 76, h => exact Option.some.inj h ▸ xck76
  | 77, h => exact Option.some.inj h ▸ xck77
  | 78, h => exact Option.some.inj h ▸ xck78
  | 79, h => exact Option.some.inj h ▸ xck79
  | 80, h => exact Option.some.inj h ▸ xck80
  | 81, h => exact Option.some.inj h ▸ xck81
  | 82, h => exact Option.some.inj h ▸ xck82
  | 83, h => exact Option.some.inj h ▸ xck83
  | 84, h => exact Option.some.inj h ▸ xck84
  | 85, h => exact Option.some.inj h ▸ xck85
  | 86, h => exact Option.some.inj h ▸ xck86
  | 87, h => exact Option.some.inj h ▸ xck87
  | 88, h => exact Option.some.inj h ▸ xck88
  | 89, h => exact Option.some.inj h ▸ xck89
  | 90, h => exact Option.some.inj h ▸ xck90
  | 91, h => exact Option.some.inj h ▸ xck91
  | 92, h => exact Option.some.inj h ▸ xck92
  | 93, h => exact Option.some.inj h ▸ xck93
  | 94, h => exact Option.some.inj h ▸ xck94
  | 95, h => exact Option.some.inj h ▸ xck95
  | 96, h => exact Option.some.inj h ▸ xck96
  | 97, h => exact Option.some.inj h ▸ xck97
  | 98, h => exact Option.some.inj h ▸ xck98
  | 99, h => exact Option.some.inj h ▸ xck99
  | 100, h => exact Option.some.inj h ▸ xck100
  | 101, h => exact Option.some.inj h ▸ xck101
  | 102, h => exact Option.some.inj h ▸ xck102
  | 103, h => exact Option.some.inj h ▸ xck103
  | 104, h => exact Option.some.inj h ▸ xck104
  | 105, h => exact Option.some.inj h ▸ xck105
  | 106, h => exact Option.some.inj h ▸ xck106
  | 107, h => exact Option.some.inj h ▸ xck107
  | 108, h => exact Option.some.inj h ▸ xck108
  | 109, h => exact Option.some.inj h ▸ xck109
  | 110, h => exact Option.some.inj h ▸ xck110
  | 111, h => exact Option.some.inj h ▸ xck111
  | 112, h => exact Option.some.inj h ▸ xck112
  | 113, h => exact Option.some.inj h ▸ xck113
  | 114, h => exact Option.some.inj h ▸ xck114
  | 115, h => exact Option.some.inj h ▸ xck115
  | 116, h => exact Option.some.inj h ▸ xck116
  | 117, h => exact Option.some.inj h ▸ xck117
  | 118, h => exact Option.some.inj h ▸ xck118
  | 119, h => exact Option.some.inj h ▸ xck119
  | 120, h => exact Option.some.inj h ▸ xck120
  | 121, h => exact Option.some.inj h ▸ xck121
  | 122, h => exact Option.some.inj h ▸ xck122
  | 123, h => exact Option.some.inj h ▸ xck123
  | 124, h => exact Option.some.inj h ▸ xck124
  | 125, h => exact Option.some.inj h ▸ xck125
  | 126, h => exact Option.some.inj h ▸ xck126
  | 127, h => exact Option.some.inj h ▸ xck127
  | 128, h => exact Option.some.inj h ▸ xck128
  | 129, h => exact Option.some.inj h ▸ xck129
  | 130, h => exact Option.some.inj h ▸ xck130
  | 131, h => exact Option.some.inj h ▸ xck131
  | 132, h => exact Option.some.inj h ▸ xck132
  | 133, h => exact Option.some.inj h ▸ xck133
  | 134, h => exact Option.some.inj h ▸ xck134
  | 135, h => exact Option.some.inj h ▸ xck135
  | 136, h => exact Option.some.inj h ▸ xck136
  | 137, h => exact Option.some.inj h ▸ xck137
  | 138, h => exact Option.some.inj h ▸ xck138
  | 139, h => exact Option.some.inj h ▸ xck139
  | 140, h => exact Option.some.inj h ▸ xck140
  | 141, h => exact Option.some.inj h ▸ xck141
  | 142, h => exact Option.some.inj h ▸ xck142
  | 143, h => exact Option.some.inj h ▸ xck143
  | 144, h => exact Option.some.inj h ▸ xck144
  | 145, h => exact Option.some.inj h ▸ xck145
  | 146, h => exact Option.some.inj h ▸ xck146
  | 147, h => exact Option.some.inj h ▸ xck147
  | 148, h => exact Option.some.inj h ▸ xck148
  | 149, h => exact Option.some.inj h ▸ xck149
  | 150, h => exact Option.some.inj h ▸ xck150
  | 151, h => exact Option.some.inj h ▸ xck151
  | 152, h => exact Option.some.inj h ▸ xck152
  | 153, h => exact Option.some.inj h ▸ xck153
  | 154, h => exact Option.some.inj h ▸ xck154
  | 155, h => exact Option.some.inj h ▸ xck155
  | 156, h => exact Option.some.inj h ▸ xck156
  | 157, h => exact Option.some.inj h ▸ xck157
  | 158, h => exact Option.some.inj h ▸ xck158
  | 159, h => exact Option.some.inj h ▸ xck159
  | 160, h => exact Option.some.inj h ▸ xck160
  | 161, h => exact Option.some.inj h ▸ xck161
  | 162, h => exact Option.some.inj h ▸ xck162
  | 163, h => exact Option.some.inj h ▸ xck163
  | 164, h => exact Option.some.inj h ▸ xck164
  | 165, h => exact Option.some.inj h ▸ xck165
  | 166, h => exact Option.some.inj h ▸ xck166
  | 167, h => exact Option.some.inj h ▸ xck167
  | 168, h => exact Option.some.inj h ▸ xck168
  | 169, h => exact Option.some.inj h ▸ xck169
  | 170, h => exact Option.some.inj h ▸ xck170
  | n + 171, h =>
    rw [List.getElem?_eq_none (by show (171 : Nat) ≤ n + 171; omega)] at h
    cases h
theorem lookup_mem {α : Type} : ∀ {l : List (Nat × α)} {k : Nat} {v : α}, l.lookup k = some v → (k, v) ∈ l
  | [], _, _, h => by simp at h
  | (a, b) :: l, k, v, h => by
    rw [List.lookup_cons] at h
    split at h
    · rename_i e
      rw [beq_iff_eq] at e
      cases h
      rw [e]
      exact List.mem_cons_self
    · exact List.mem_cons_of_mem _ (lookup_mem h)
theorem xCD_chk {m pc : Nat} {i : Instr} {nf : List Nat} (h : xCD m pc = some (i, nf)) : chk m (pc, i, nf) = true := by
  unfold xCD at h
  cases hm : xMT[m]? with
  | none => rw [List.getD_eq_getElem?_getD, hm] at h; simp at h
  | some l =>
    rw [List.getD_eq_getElem?_getD, hm] at h
    exact List.all_eq_true.mp (xck_all m l hm) _ (lookup_mem h)
