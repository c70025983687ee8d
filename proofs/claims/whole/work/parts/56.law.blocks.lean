/-! Blocks of the reference's constructor and of the law: printed by wip/whole/runlaw.py. -/
theorem zcB_11 : (Int8.ofInt 11).toInt32 = nI 11 := by decide
theorem zcB_12 : (Int8.ofInt 12).toInt32 = nI 12 := by decide
theorem zcB_13 : (Int8.ofInt 13).toInt32 = nI 13 := by decide
theorem zcB_16 : (Int8.ofInt 16).toInt32 = nI 16 := by decide
theorem zcB_18 : (Int8.ofInt 18).toInt32 = nI 18 := by decide
theorem zcB_31 : (Int8.ofInt 31).toInt32 = nI 31 := by decide
theorem zcB_47 : (Int8.ofInt 47).toInt32 = nI 47 := by decide
theorem zcB_61 : (Int8.ofInt 61).toInt32 = nI 61 := by decide
theorem zcB_62 : (Int8.ofInt 62).toInt32 = nI 62 := by decide
section
variable {X : Nat × (Nat → Int32)} {C : Nat → List Value → xHp → Option Value → xHp → Prop} {Q : Option Value → xHp → Prop} {D : zD} {ct : zM}
-- ('PaintedTownModel', '<init>', '()V')
theorem b102_92 {D1 : zD} {ct1 : zM} (he : C 103 [.ref 33] (mk (zDm D) ct) none (mk D1 ct1)) (kk : RUN X C 102 Q 96 [.ref 33] [] (mk D1 ct1)) : RUN X C 102 Q 92 [.ref 33] [] (mk (zDm D) ct) :=
  s_aload_n c102_92 rfl <|
  s_callv (args := []) (r := []) c102_93 rfl rfl (Nat.le_of_ble_eq_true rfl) rfl ⟨rfl, by decide⟩ he kk
theorem b102_96 {D1 : zD} {ct1 : zM} (he : C 104 [.ref 33, .int (nI 3), .int (nI 4)] (mk (zDm D) (u2 (u2 ct 35 0 (nI 4)) 35 1 (nI 5))) none (mk D1 ct1)) (kk : RUN X C 102 Q 116 [.ref 33] [] (mk D1 ct1)) : RUN X C 102 Q 96 [.ref 33] [] (mk (zDm D) ct) :=
  s_aload_n c102_96 rfl <|
  s_getf (ct := ct) c102_97 rfl (by decide) rfl <|
  s_const c102_100 zcI_0 <|
  s_const c102_101 zcI_4 <|
  s_iast (ct := ct) c102_102 rfl (zix_nI (by decide) (by decide)) <|
  s_aload_n c102_103 rfl <|
  s_getf (ct := (u2 ct 35 0 (nI 4))) c102_104 rfl (by decide) rfl <|
  s_const c102_107 zcI_1 <|
  s_const c102_108 zcI_5 <|
  s_iast (ct := (u2 ct 35 0 (nI 4))) c102_109 rfl (zix_nI (by decide) (by decide)) <|
  s_aload_n c102_110 rfl <|
  s_const c102_111 zcI_3 <|
  s_const c102_112 zcI_4 <|
  s_callv (args := [.int (nI 3), .int (nI 4)]) (r := []) c102_113 rfl rfl (Nat.le_of_ble_eq_true rfl) rfl ⟨rfl, by decide⟩ he kk
theorem b102_116 {D1 : zD} {ct1 : zM} (he : C 104 [.ref 33, .int (nI 8), .int (nI 1)] (mk (zDm D) ct) none (mk D1 ct1)) (kk : RUN X C 102 Q 123 [.ref 33] [] (mk D1 ct1)) : RUN X C 102 Q 116 [.ref 33] [] (mk (zDm D) ct) :=
  s_aload_n c102_116 rfl <|
  s_bipush c102_117 zcB_8 <|
  s_const c102_119 zcI_1 <|
  s_callv (args := [.int (nI 8), .int (nI 1)]) (r := []) c102_120 rfl rfl (Nat.le_of_ble_eq_true rfl) rfl ⟨rfl, by decide⟩ he kk
theorem b102_123 {D1 : zD} {ct1 : zM} (he : C 104 [.ref 33, .int (nI 9), .int (nI 1)] (mk (zDm D) ct) none (mk D1 ct1)) (kk : RUN X C 102 Q 130 [.ref 33] [] (mk D1 ct1)) : RUN X C 102 Q 123 [.ref 33] [] (mk (zDm D) ct) :=
  s_aload_n c102_123 rfl <|
  s_bipush c102_124 zcB_9 <|
  s_const c102_126 zcI_1 <|
  s_callv (args := [.int (nI 9), .int (nI 1)]) (r := []) c102_127 rfl rfl (Nat.le_of_ble_eq_true rfl) rfl ⟨rfl, by decide⟩ he kk
theorem b102_130 {D1 : zD} {ct1 : zM} (he : C 104 [.ref 33, .int (nI 12), .int (nI 5)] (mk (zDm D) ct) none (mk D1 ct1)) (kk : RUN X C 102 Q 137 [.ref 33] [] (mk D1 ct1)) : RUN X C 102 Q 130 [.ref 33] [] (mk (zDm D) ct) :=
  s_aload_n c102_130 rfl <|
  s_bipush c102_131 zcB_12 <|
  s_const c102_133 zcI_5 <|
  s_callv (args := [.int (nI 12), .int (nI 5)]) (r := []) c102_134 rfl rfl (Nat.le_of_ble_eq_true rfl) rfl ⟨rfl, by decide⟩ he kk
theorem b102_137 {D1 : zD} {ct1 : zM} (he : C 104 [.ref 33, .int (nI 11), .int (nI 2)] (mk (zDm D) ct) none (mk D1 ct1)) (kk : RUN X C 102 Q 144 [.ref 33] [] (mk D1 ct1)) : RUN X C 102 Q 137 [.ref 33] [] (mk (zDm D) ct) :=
  s_aload_n c102_137 rfl <|
  s_bipush c102_138 zcB_11 <|
  s_const c102_140 zcI_2 <|
  s_callv (args := [.int (nI 11), .int (nI 2)]) (r := []) c102_141 rfl rfl (Nat.le_of_ble_eq_true rfl) rfl ⟨rfl, by decide⟩ he kk
theorem b102_144 {D1 : zD} {ct1 : zM} (he : C 104 [.ref 33, .int (nI 13), .int (nI 7)] (mk (zDm D) ct) none (mk D1 ct1)) (kk : RUN X C 102 Q 152 [.ref 33] [] (mk D1 ct1)) : RUN X C 102 Q 144 [.ref 33] [] (mk (zDm D) ct) :=
  s_aload_n c102_144 rfl <|
  s_bipush c102_145 zcB_13 <|
  s_bipush c102_147 zcB_7 <|
  s_callv (args := [.int (nI 13), .int (nI 7)]) (r := []) c102_149 rfl rfl (Nat.le_of_ble_eq_true rfl) rfl ⟨rfl, by decide⟩ he kk
theorem b102_152 {D1 : zD} {ct1 : zM} (he : C 104 [.ref 33, .int (nI 16), .int (nI 3)] (mk (zDm D) ct) none (mk D1 ct1)) (kk : RUN X C 102 Q 159 [.ref 33] [] (mk D1 ct1)) : RUN X C 102 Q 152 [.ref 33] [] (mk (zDm D) ct) :=
  s_aload_n c102_152 rfl <|
  s_bipush c102_153 zcB_16 <|
  s_const c102_155 zcI_3 <|
  s_callv (args := [.int (nI 16), .int (nI 3)]) (r := []) c102_156 rfl rfl (Nat.le_of_ble_eq_true rfl) rfl ⟨rfl, by decide⟩ he kk
theorem b102_159 {D1 : zD} {ct1 : zM} (he : C 104 [.ref 33, .int (nI 18), .int (nI 1)] (mk (zDm D) ct) none (mk D1 ct1)) (kk : RUN X C 102 Q 166 [.ref 33] [] (mk D1 ct1)) : RUN X C 102 Q 159 [.ref 33] [] (mk (zDm D) ct) :=
  s_aload_n c102_159 rfl <|
  s_bipush c102_160 zcB_18 <|
  s_const c102_162 zcI_1 <|
  s_callv (args := [.int (nI 18), .int (nI 1)]) (r := []) c102_163 rfl rfl (Nat.le_of_ble_eq_true rfl) rfl ⟨rfl, by decide⟩ he kk
theorem b102_166 {D1 : zD} {ct1 : zM} (he : C 105 [.ref 33] (mk (zDm D) (u2 (u2 (u2 (u2 (u2 (u2 (u2 (u2 (u2 (u2 (u2 ct 35 48 (nI 0)) 35 47 (nI 4)) 35 61 (nI 0)) 35 62 (nI 3)) 35 8 (nI 12)) 35 7 (nI 2)) 35 2 (nI 9)) 35 3 (nI 3)) 35 4 (nI 2)) 35 5 (nI 4)) 35 6 (nI 1))) none (mk D1 ct1)) (kk : RUN X C 102 Q 256 [.ref 33] [] (mk D1 ct1)) : RUN X C 102 Q 166 [.ref 33] [] (mk (zDm D) ct) :=
  s_aload_n c102_166 rfl <|
  s_getf (ct := ct) c102_167 rfl (by decide) rfl <|
  s_bipush c102_170 zcB_48 <|
  s_const c102_172 zcI_0 <|
  s_iast (ct := ct) c102_173 rfl (zix_nI (by decide) (by decide)) <|
  s_aload_n c102_174 rfl <|
  s_getf (ct := (u2 ct 35 48 (nI 0))) c102_175 rfl (by decide) rfl <|
  s_bipush c102_178 zcB_47 <|
  s_const c102_180 zcI_4 <|
  s_iast (ct := (u2 ct 35 48 (nI 0))) c102_181 rfl (zix_nI (by decide) (by decide)) <|
  s_aload_n c102_182 rfl <|
  s_getf (ct := (u2 (u2 ct 35 48 (nI 0)) 35 47 (nI 4))) c102_183 rfl (by decide) rfl <|
  s_bipush c102_186 zcB_61 <|
  s_const c102_188 zcI_0 <|
  s_iast (ct := (u2 (u2 ct 35 48 (nI 0)) 35 47 (nI 4))) c102_189 rfl (zix_nI (by decide) (by decide)) <|
  s_aload_n c102_190 rfl <|
  s_getf (ct := (u2 (u2 (u2 ct 35 48 (nI 0)) 35 47 (nI 4)) 35 61 (nI 0))) c102_191 rfl (by decide) rfl <|
  s_bipush c102_194 zcB_62 <|
  s_const c102_196 zcI_3 <|
  s_iast (ct := (u2 (u2 (u2 ct 35 48 (nI 0)) 35 47 (nI 4)) 35 61 (nI 0))) c102_197 rfl (zix_nI (by decide) (by decide)) <|
  s_aload_n c102_198 rfl <|
  s_getf (ct := (u2 (u2 (u2 (u2 ct 35 48 (nI 0)) 35 47 (nI 4)) 35 61 (nI 0)) 35 62 (nI 3))) c102_199 rfl (by decide) rfl <|
  s_bipush c102_202 zcB_8 <|
  s_bipush c102_204 zcB_12 <|
  s_iast (ct := (u2 (u2 (u2 (u2 ct 35 48 (nI 0)) 35 47 (nI 4)) 35 61 (nI 0)) 35 62 (nI 3))) c102_206 rfl (zix_nI (by decide) (by decide)) <|
  s_aload_n c102_207 rfl <|
  s_getf (ct := (u2 (u2 (u2 (u2 (u2 ct 35 48 (nI 0)) 35 47 (nI 4)) 35 61 (nI 0)) 35 62 (nI 3)) 35 8 (nI 12))) c102_208 rfl (by decide) rfl <|
  s_bipush c102_211 zcB_7 <|
  s_const c102_213 zcI_2 <|
  s_iast (ct := (u2 (u2 (u2 (u2 (u2 ct 35 48 (nI 0)) 35 47 (nI 4)) 35 61 (nI 0)) 35 62 (nI 3)) 35 8 (nI 12))) c102_214 rfl (zix_nI (by decide) (by decide)) <|
  s_aload_n c102_215 rfl <|
  s_getf (ct := (u2 (u2 (u2 (u2 (u2 (u2 ct 35 48 (nI 0)) 35 47 (nI 4)) 35 61 (nI 0)) 35 62 (nI 3)) 35 8 (nI 12)) 35 7 (nI 2))) c102_216 rfl (by decide) rfl <|
  s_const c102_219 zcI_2 <|
  s_bipush c102_220 zcB_9 <|
  s_iast (ct := (u2 (u2 (u2 (u2 (u2 (u2 ct 35 48 (nI 0)) 35 47 (nI 4)) 35 61 (nI 0)) 35 62 (nI 3)) 35 8 (nI 12)) 35 7 (nI 2))) c102_222 rfl (zix_nI (by decide) (by decide)) <|
  s_aload_n c102_223 rfl <|
  s_getf (ct := (u2 (u2 (u2 (u2 (u2 (u2 (u2 ct 35 48 (nI 0)) 35 47 (nI 4)) 35 61 (nI 0)) 35 62 (nI 3)) 35 8 (nI 12)) 35 7 (nI 2)) 35 2 (nI 9))) c102_224 rfl (by decide) rfl <|
  s_const c102_227 zcI_3 <|
  s_const c102_228 zcI_3 <|
  s_iast (ct := (u2 (u2 (u2 (u2 (u2 (u2 (u2 ct 35 48 (nI 0)) 35 47 (nI 4)) 35 61 (nI 0)) 35 62 (nI 3)) 35 8 (nI 12)) 35 7 (nI 2)) 35 2 (nI 9))) c102_229 rfl (zix_nI (by decide) (by decide)) <|
  s_aload_n c102_230 rfl <|
  s_getf (ct := (u2 (u2 (u2 (u2 (u2 (u2 (u2 (u2 ct 35 48 (nI 0)) 35 47 (nI 4)) 35 61 (nI 0)) 35 62 (nI 3)) 35 8 (nI 12)) 35 7 (nI 2)) 35 2 (nI 9)) 35 3 (nI 3))) c102_231 rfl (by decide) rfl <|
  s_const c102_234 zcI_4 <|
  s_const c102_235 zcI_2 <|
  s_iast (ct := (u2 (u2 (u2 (u2 (u2 (u2 (u2 (u2 ct 35 48 (nI 0)) 35 47 (nI 4)) 35 61 (nI 0)) 35 62 (nI 3)) 35 8 (nI 12)) 35 7 (nI 2)) 35 2 (nI 9)) 35 3 (nI 3))) c102_236 rfl (zix_nI (by decide) (by decide)) <|
  s_aload_n c102_237 rfl <|
  s_getf (ct := (u2 (u2 (u2 (u2 (u2 (u2 (u2 (u2 (u2 ct 35 48 (nI 0)) 35 47 (nI 4)) 35 61 (nI 0)) 35 62 (nI 3)) 35 8 (nI 12)) 35 7 (nI 2)) 35 2 (nI 9)) 35 3 (nI 3)) 35 4 (nI 2))) c102_238 rfl (by decide) rfl <|
  s_const c102_241 zcI_5 <|
  s_const c102_242 zcI_4 <|
  s_iast (ct := (u2 (u2 (u2 (u2 (u2 (u2 (u2 (u2 (u2 ct 35 48 (nI 0)) 35 47 (nI 4)) 35 61 (nI 0)) 35 62 (nI 3)) 35 8 (nI 12)) 35 7 (nI 2)) 35 2 (nI 9)) 35 3 (nI 3)) 35 4 (nI 2))) c102_243 rfl (zix_nI (by decide) (by decide)) <|
  s_aload_n c102_244 rfl <|
  s_getf (ct := (u2 (u2 (u2 (u2 (u2 (u2 (u2 (u2 (u2 (u2 ct 35 48 (nI 0)) 35 47 (nI 4)) 35 61 (nI 0)) 35 62 (nI 3)) 35 8 (nI 12)) 35 7 (nI 2)) 35 2 (nI 9)) 35 3 (nI 3)) 35 4 (nI 2)) 35 5 (nI 4))) c102_245 rfl (by decide) rfl <|
  s_bipush c102_248 zcB_6 <|
  s_const c102_250 zcI_1 <|
  s_iast (ct := (u2 (u2 (u2 (u2 (u2 (u2 (u2 (u2 (u2 (u2 ct 35 48 (nI 0)) 35 47 (nI 4)) 35 61 (nI 0)) 35 62 (nI 3)) 35 8 (nI 12)) 35 7 (nI 2)) 35 2 (nI 9)) 35 3 (nI 3)) 35 4 (nI 2)) 35 5 (nI 4))) c102_251 rfl (zix_nI (by decide) (by decide)) <|
  s_aload_n c102_252 rfl <|
  s_callv (args := []) (r := []) c102_253 rfl rfl (Nat.le_of_ble_eq_true rfl) rfl ⟨rfl, by decide⟩ he kk
theorem b102_256 (hq : Q none (mk (zDm D) ct)) : RUN X C 102 Q 256 [.ref 33] [] (mk (zDm D) ct) :=
  s_ret c102_256 rfl hq
-- ('PaintedTownLaw', 'law', '([I)Z')
theorem b86_16 {l3 : Value} (kk : RUN X C 86 Q 18 [.retAddr 4, .ref 0, .ref 33, .int (nI 0)] [] (mk (zDm D) ct)) : RUN X C 86 Q 16 [.retAddr 4, .ref 0, .ref 33, l3] [] (mk (zDm D) ct) :=
  s_const c86_16 zcI_0 <|
  s_istore_n c86_17 (Nat.le_of_ble_eq_true rfl) True.intro <|
  kk
theorem b86_18 {x3 : Int32} (k1 : ((nI X.1) - (nI 4)) < x3 → RUN X C 86 Q 834 [.retAddr 4, .ref 0, .ref 33, .int x3] [] (mk (zDm D) ct)) (k2 : ¬ ((nI X.1) - (nI 4)) < x3 → RUN X C 86 Q 26 [.retAddr 4, .ref 0, .ref 33, .int x3] [] (mk (zDm D) ct)) : RUN X C 86 Q 18 [.retAddr 4, .ref 0, .ref 33, .int x3] [] (mk (zDm D) ct) :=
  s_iload_n c86_18 rfl <|
  s_aloadr_n c86_19 rfl <|
  s_alen4 c86_20 <|
  s_const c86_21 zcI_4 <|
  s_isub c86_22 <|
  s_icgt c86_23 k1 k2
theorem b86_26 {x3 : Int32} {j28 : Nat} (hx28 : zix x3 j28 (X.1)) (kk : xsw [828, 168, 191, 204, 217, 230, 263, 286, 309, 342, 355, 378, 401, 424, 447, 460, 493, 506, 529, 552, 575, 608, 621, 644, 667, 690, 713, 736, 779, 792, 805] (((X.2 j28) &&& (nI 31)).toInt - 0) fun t => RUN X C 86 Q t [.retAddr 4, .ref 0, .ref 33, .int x3] [] (mk (zDm D) ct)) : RUN X C 86 Q 26 [.retAddr 4, .ref 0, .ref 33, .int x3] [] (mk (zDm D) ct) :=
  s_aloadr_n c86_26 rfl <|
  s_iload_n c86_27 rfl <|
  s_script c86_28 rfl hx28 <|
  s_bipush c86_29 zcB_31 <|
  s_iand c86_31 <|
  s_switch c86_32 kk
theorem b86_168 {x3 : Int32} {D1 : zD} {ct1 : zM} {v1 : Int32} {j173 : Nat} (hx173 : zix (x3 + (nI 1)) j173 (X.1)) (he : C 37 [.ref 0, .int (X.2 j173)] (mk (zDm D) ct) (some (.int v1)) (mk D1 ct1)) (kk : RUN X C 86 Q 177 [.retAddr 4, .ref 0, .ref 33, .int x3] [.int v1] (mk D1 ct1)) : RUN X C 86 Q 168 [.retAddr 4, .ref 0, .ref 33, .int x3] [] (mk (zDm D) ct) :=
  s_aload_n c86_168 rfl <|
  s_aloadr_n c86_169 rfl <|
  s_iload_n c86_170 rfl <|
  s_const c86_171 zcI_1 <|
  s_iadd c86_172 <|
  s_script c86_173 rfl hx173 <|
  s_callv (args := [.int (X.2 j173)]) (r := []) c86_174 rfl rfl (Nat.le_of_ble_eq_true rfl) rfl ⟨rfl, by decide⟩ he kk
theorem b86_177 {x3 : Int32} {xs0 : Int32} {D1 : zD} {ct1 : zM} {v1 : Int32} {j182 : Nat} (hx182 : zix (x3 + (nI 1)) j182 (X.1)) (he : C 107 [.ref 33, .int (X.2 j182)] (mk (zDm D) ct) (some (.int v1)) (mk D1 ct1)) (kk : RUN X C 86 Q 186 [.retAddr 4, .ref 0, .ref 33, .int x3] [.int v1, .int xs0] (mk D1 ct1)) : RUN X C 86 Q 177 [.retAddr 4, .ref 0, .ref 33, .int x3] [.int xs0] (mk (zDm D) ct) :=
  s_aload_n c86_177 rfl <|
  s_aloadr_n c86_178 rfl <|
  s_iload_n c86_179 rfl <|
  s_const c86_180 zcI_1 <|
  s_iadd c86_181 <|
  s_script c86_182 rfl hx182 <|
  s_callv (args := [.int (X.2 j182)]) (r := [.int xs0]) c86_183 rfl rfl (Nat.le_of_ble_eq_true rfl) rfl ⟨rfl, by decide⟩ he kk
theorem b86_186 {x3 : Int32} {xs0 : Int32} {xs1 : Int32} (k1 : xs0 = xs1 → RUN X C 86 Q 828 [.retAddr 4, .ref 0, .ref 33, .int x3] [] (mk (zDm D) ct)) (k2 : ¬ xs0 = xs1 → RUN X C 86 Q 189 [.retAddr 4, .ref 0, .ref 33, .int x3] [] (mk (zDm D) ct)) : RUN X C 86 Q 186 [.retAddr 4, .ref 0, .ref 33, .int x3] [.int xs1, .int xs0] (mk (zDm D) ct) :=
  s_iceq c86_186 k1 k2
theorem b86_189 {x3 : Int32} (hq : Q (some (.int (nI 0))) (mk (zDm D) ct)) : RUN X C 86 Q 189 [.retAddr 4, .ref 0, .ref 33, .int x3] [] (mk (zDm D) ct) :=
  s_const c86_189 zcI_0 <|
  s_iret c86_190 (xrtZ rfl (Or.inl rfl)) hq
theorem b86_191 {x3 : Int32} {D1 : zD} {ct1 : zM} {v1 : Int32} (he : C 38 [.ref 0] (mk (zDm D) ct) (some (.int v1)) (mk D1 ct1)) (kk : RUN X C 86 Q 195 [.retAddr 4, .ref 0, .ref 33, .int x3] [.int v1] (mk D1 ct1)) : RUN X C 86 Q 191 [.retAddr 4, .ref 0, .ref 33, .int x3] [] (mk (zDm D) ct) :=
  s_aload_n c86_191 rfl <|
  s_callv (args := []) (r := []) c86_192 rfl rfl (Nat.le_of_ble_eq_true rfl) rfl ⟨rfl, by decide⟩ he kk
theorem b86_195 {x3 : Int32} {xs0 : Int32} {D1 : zD} {ct1 : zM} {v1 : Int32} (he : C 109 [.ref 33] (mk (zDm D) ct) (some (.int v1)) (mk D1 ct1)) (kk : RUN X C 86 Q 199 [.retAddr 4, .ref 0, .ref 33, .int x3] [.int v1, .int xs0] (mk D1 ct1)) : RUN X C 86 Q 195 [.retAddr 4, .ref 0, .ref 33, .int x3] [.int xs0] (mk (zDm D) ct) :=
  s_aload_n c86_195 rfl <|
  s_callv (args := []) (r := [.int xs0]) c86_196 rfl rfl (Nat.le_of_ble_eq_true rfl) rfl ⟨rfl, by decide⟩ he kk
theorem b86_199 {x3 : Int32} {xs0 : Int32} {xs1 : Int32} (k1 : xs0 = xs1 → RUN X C 86 Q 828 [.retAddr 4, .ref 0, .ref 33, .int x3] [] (mk (zDm D) ct)) (k2 : ¬ xs0 = xs1 → RUN X C 86 Q 202 [.retAddr 4, .ref 0, .ref 33, .int x3] [] (mk (zDm D) ct)) : RUN X C 86 Q 199 [.retAddr 4, .ref 0, .ref 33, .int x3] [.int xs1, .int xs0] (mk (zDm D) ct) :=
  s_iceq c86_199 k1 k2
theorem b86_202 {x3 : Int32} (hq : Q (some (.int (nI 0))) (mk (zDm D) ct)) : RUN X C 86 Q 202 [.retAddr 4, .ref 0, .ref 33, .int x3] [] (mk (zDm D) ct) :=
  s_const c86_202 zcI_0 <|
  s_iret c86_203 (xrtZ rfl (Or.inl rfl)) hq
theorem b86_204 {x3 : Int32} {D1 : zD} {ct1 : zM} {v1 : Int32} (he : C 39 [.ref 0] (mk (zDm D) ct) (some (.int v1)) (mk D1 ct1)) (kk : RUN X C 86 Q 208 [.retAddr 4, .ref 0, .ref 33, .int x3] [.int v1] (mk D1 ct1)) : RUN X C 86 Q 204 [.retAddr 4, .ref 0, .ref 33, .int x3] [] (mk (zDm D) ct) :=
  s_aload_n c86_204 rfl <|
  s_callv (args := []) (r := []) c86_205 rfl rfl (Nat.le_of_ble_eq_true rfl) rfl ⟨rfl, by decide⟩ he kk
theorem b86_208 {x3 : Int32} {xs0 : Int32} {D1 : zD} {ct1 : zM} {v1 : Int32} (he : C 110 [.ref 33] (mk (zDm D) ct) (some (.int v1)) (mk D1 ct1)) (kk : RUN X C 86 Q 212 [.retAddr 4, .ref 0, .ref 33, .int x3] [.int v1, .int xs0] (mk D1 ct1)) : RUN X C 86 Q 208 [.retAddr 4, .ref 0, .ref 33, .int x3] [.int xs0] (mk (zDm D) ct) :=
  s_aload_n c86_208 rfl <|
  s_callv (args := []) (r := [.int xs0]) c86_209 rfl rfl (Nat.le_of_ble_eq_true rfl) rfl ⟨rfl, by decide⟩ he kk
theorem b86_212 {x3 : Int32} {xs0 : Int32} {xs1 : Int32} (k1 : xs0 = xs1 → RUN X C 86 Q 828 [.retAddr 4, .ref 0, .ref 33, .int x3] [] (mk (zDm D) ct)) (k2 : ¬ xs0 = xs1 → RUN X C 86 Q 215 [.retAddr 4, .ref 0, .ref 33, .int x3] [] (mk (zDm D) ct)) : RUN X C 86 Q 212 [.retAddr 4, .ref 0, .ref 33, .int x3] [.int xs1, .int xs0] (mk (zDm D) ct) :=
  s_iceq c86_212 k1 k2
theorem b86_215 {x3 : Int32} (hq : Q (some (.int (nI 0))) (mk (zDm D) ct)) : RUN X C 86 Q 215 [.retAddr 4, .ref 0, .ref 33, .int x3] [] (mk (zDm D) ct) :=
  s_const c86_215 zcI_0 <|
  s_iret c86_216 (xrtZ rfl (Or.inl rfl)) hq
theorem b86_217 {x3 : Int32} {D1 : zD} {ct1 : zM} {v1 : Int32} (he : C 40 [.ref 0] (mk (zDm D) ct) (some (.int v1)) (mk D1 ct1)) (kk : RUN X C 86 Q 221 [.retAddr 4, .ref 0, .ref 33, .int x3] [.int v1] (mk D1 ct1)) : RUN X C 86 Q 217 [.retAddr 4, .ref 0, .ref 33, .int x3] [] (mk (zDm D) ct) :=
  s_aload_n c86_217 rfl <|
  s_callv (args := []) (r := []) c86_218 rfl rfl (Nat.le_of_ble_eq_true rfl) rfl ⟨rfl, by decide⟩ he kk
theorem b86_221 {x3 : Int32} {xs0 : Int32} {D1 : zD} {ct1 : zM} {v1 : Int32} (he : C 121 [.ref 33] (mk (zDm D) ct) (some (.int v1)) (mk D1 ct1)) (kk : RUN X C 86 Q 225 [.retAddr 4, .ref 0, .ref 33, .int x3] [.int v1, .int xs0] (mk D1 ct1)) : RUN X C 86 Q 221 [.retAddr 4, .ref 0, .ref 33, .int x3] [.int xs0] (mk (zDm D) ct) :=
  s_aload_n c86_221 rfl <|
  s_callv (args := []) (r := [.int xs0]) c86_222 rfl rfl (Nat.le_of_ble_eq_true rfl) rfl ⟨rfl, by decide⟩ he kk
theorem b86_225 {x3 : Int32} {xs0 : Int32} {xs1 : Int32} (k1 : xs0 = xs1 → RUN X C 86 Q 828 [.retAddr 4, .ref 0, .ref 33, .int x3] [] (mk (zDm D) ct)) (k2 : ¬ xs0 = xs1 → RUN X C 86 Q 228 [.retAddr 4, .ref 0, .ref 33, .int x3] [] (mk (zDm D) ct)) : RUN X C 86 Q 225 [.retAddr 4, .ref 0, .ref 33, .int x3] [.int xs1, .int xs0] (mk (zDm D) ct) :=
  s_iceq c86_225 k1 k2
theorem b86_228 {x3 : Int32} (hq : Q (some (.int (nI 0))) (mk (zDm D) ct)) : RUN X C 86 Q 228 [.retAddr 4, .ref 0, .ref 33, .int x3] [] (mk (zDm D) ct) :=
  s_const c86_228 zcI_0 <|
  s_iret c86_229 (xrtZ rfl (Or.inl rfl)) hq
theorem b86_230 {x3 : Int32} {D1 : zD} {ct1 : zM} {v1 : Int32} {j235 : Nat} (hx235 : zix (x3 + (nI 1)) j235 (X.1)) {j240 : Nat} (hx240 : zix (x3 + (nI 2)) j240 (X.1)) (he : C 41 [.ref 0, .int (X.2 j235), .int (X.2 j240)] (mk (zDm D) ct) (some (.int v1)) (mk D1 ct1)) (kk : RUN X C 86 Q 244 [.retAddr 4, .ref 0, .ref 33, .int x3] [.int v1] (mk D1 ct1)) : RUN X C 86 Q 230 [.retAddr 4, .ref 0, .ref 33, .int x3] [] (mk (zDm D) ct) :=
  s_aload_n c86_230 rfl <|
  s_aloadr_n c86_231 rfl <|
  s_iload_n c86_232 rfl <|
  s_const c86_233 zcI_1 <|
  s_iadd c86_234 <|
  s_script c86_235 rfl hx235 <|
  s_aloadr_n c86_236 rfl <|
  s_iload_n c86_237 rfl <|
  s_const c86_238 zcI_2 <|
  s_iadd c86_239 <|
  s_script c86_240 rfl hx240 <|
  s_callv (args := [.int (X.2 j235), .int (X.2 j240)]) (r := []) c86_241 rfl rfl (Nat.le_of_ble_eq_true rfl) rfl ⟨rfl, by decide⟩ he kk
theorem b86_244 {x3 : Int32} {xs0 : Int32} {D1 : zD} {ct1 : zM} {v1 : Int32} {j249 : Nat} (hx249 : zix (x3 + (nI 1)) j249 (X.1)) {j254 : Nat} (hx254 : zix (x3 + (nI 2)) j254 (X.1)) (he : C 123 [.ref 33, .int (X.2 j249), .int (X.2 j254)] (mk (zDm D) ct) (some (.int v1)) (mk D1 ct1)) (kk : RUN X C 86 Q 258 [.retAddr 4, .ref 0, .ref 33, .int x3] [.int v1, .int xs0] (mk D1 ct1)) : RUN X C 86 Q 244 [.retAddr 4, .ref 0, .ref 33, .int x3] [.int xs0] (mk (zDm D) ct) :=
  s_aload_n c86_244 rfl <|
  s_aloadr_n c86_245 rfl <|
  s_iload_n c86_246 rfl <|
  s_const c86_247 zcI_1 <|
  s_iadd c86_248 <|
  s_script c86_249 rfl hx249 <|
  s_aloadr_n c86_250 rfl <|
  s_iload_n c86_251 rfl <|
  s_const c86_252 zcI_2 <|
  s_iadd c86_253 <|
  s_script c86_254 rfl hx254 <|
  s_callv (args := [.int (X.2 j249), .int (X.2 j254)]) (r := [.int xs0]) c86_255 rfl rfl (Nat.le_of_ble_eq_true rfl) rfl ⟨rfl, by decide⟩ he kk
theorem b86_258 {x3 : Int32} {xs0 : Int32} {xs1 : Int32} (k1 : xs0 = xs1 → RUN X C 86 Q 828 [.retAddr 4, .ref 0, .ref 33, .int x3] [] (mk (zDm D) ct)) (k2 : ¬ xs0 = xs1 → RUN X C 86 Q 261 [.retAddr 4, .ref 0, .ref 33, .int x3] [] (mk (zDm D) ct)) : RUN X C 86 Q 258 [.retAddr 4, .ref 0, .ref 33, .int x3] [.int xs1, .int xs0] (mk (zDm D) ct) :=
  s_iceq c86_258 k1 k2
theorem b86_261 {x3 : Int32} (hq : Q (some (.int (nI 0))) (mk (zDm D) ct)) : RUN X C 86 Q 261 [.retAddr 4, .ref 0, .ref 33, .int x3] [] (mk (zDm D) ct) :=
  s_const c86_261 zcI_0 <|
  s_iret c86_262 (xrtZ rfl (Or.inl rfl)) hq
theorem b86_263 {x3 : Int32} {D1 : zD} {ct1 : zM} {v1 : Int32} {j268 : Nat} (hx268 : zix (x3 + (nI 1)) j268 (X.1)) (he : C 50 [.ref 0, .int (X.2 j268)] (mk (zDm D) ct) (some (.int v1)) (mk D1 ct1)) (kk : RUN X C 86 Q 272 [.retAddr 4, .ref 0, .ref 33, .int x3] [.int v1] (mk D1 ct1)) : RUN X C 86 Q 263 [.retAddr 4, .ref 0, .ref 33, .int x3] [] (mk (zDm D) ct) :=
  s_aload_n c86_263 rfl <|
  s_aloadr_n c86_264 rfl <|
  s_iload_n c86_265 rfl <|
  s_const c86_266 zcI_1 <|
  s_iadd c86_267 <|
  s_script c86_268 rfl hx268 <|
  s_callv (args := [.int (X.2 j268)]) (r := []) c86_269 rfl rfl (Nat.le_of_ble_eq_true rfl) rfl ⟨rfl, by decide⟩ he kk
theorem b86_272 {x3 : Int32} {xs0 : Int32} {D1 : zD} {ct1 : zM} {v1 : Int32} {j277 : Nat} (hx277 : zix (x3 + (nI 1)) j277 (X.1)) (he : C 132 [.ref 33, .int (X.2 j277)] (mk (zDm D) ct) (some (.int v1)) (mk D1 ct1)) (kk : RUN X C 86 Q 281 [.retAddr 4, .ref 0, .ref 33, .int x3] [.int v1, .int xs0] (mk D1 ct1)) : RUN X C 86 Q 272 [.retAddr 4, .ref 0, .ref 33, .int x3] [.int xs0] (mk (zDm D) ct) :=
  s_aload_n c86_272 rfl <|
  s_aloadr_n c86_273 rfl <|
  s_iload_n c86_274 rfl <|
  s_const c86_275 zcI_1 <|
  s_iadd c86_276 <|
  s_script c86_277 rfl hx277 <|
  s_callv (args := [.int (X.2 j277)]) (r := [.int xs0]) c86_278 rfl rfl (Nat.le_of_ble_eq_true rfl) rfl ⟨rfl, by decide⟩ he kk
theorem b86_281 {x3 : Int32} {xs0 : Int32} {xs1 : Int32} (k1 : xs0 = xs1 → RUN X C 86 Q 828 [.retAddr 4, .ref 0, .ref 33, .int x3] [] (mk (zDm D) ct)) (k2 : ¬ xs0 = xs1 → RUN X C 86 Q 284 [.retAddr 4, .ref 0, .ref 33, .int x3] [] (mk (zDm D) ct)) : RUN X C 86 Q 281 [.retAddr 4, .ref 0, .ref 33, .int x3] [.int xs1, .int xs0] (mk (zDm D) ct) :=
  s_iceq c86_281 k1 k2
theorem b86_284 {x3 : Int32} (hq : Q (some (.int (nI 0))) (mk (zDm D) ct)) : RUN X C 86 Q 284 [.retAddr 4, .ref 0, .ref 33, .int x3] [] (mk (zDm D) ct) :=
  s_const c86_284 zcI_0 <|
  s_iret c86_285 (xrtZ rfl (Or.inl rfl)) hq
theorem b86_286 {x3 : Int32} {D1 : zD} {ct1 : zM} {v1 : Int32} {j291 : Nat} (hx291 : zix (x3 + (nI 1)) j291 (X.1)) (he : C 56 [.ref 0, .int (X.2 j291)] (mk (zDm D) ct) (some (.int v1)) (mk D1 ct1)) (kk : RUN X C 86 Q 295 [.retAddr 4, .ref 0, .ref 33, .int x3] [.int v1] (mk D1 ct1)) : RUN X C 86 Q 286 [.retAddr 4, .ref 0, .ref 33, .int x3] [] (mk (zDm D) ct) :=
  s_aload_n c86_286 rfl <|
  s_aloadr_n c86_287 rfl <|
  s_iload_n c86_288 rfl <|
  s_const c86_289 zcI_1 <|
  s_iadd c86_290 <|
  s_script c86_291 rfl hx291 <|
  s_callv (args := [.int (X.2 j291)]) (r := []) c86_292 rfl rfl (Nat.le_of_ble_eq_true rfl) rfl ⟨rfl, by decide⟩ he kk
theorem b86_295 {x3 : Int32} {xs0 : Int32} {D1 : zD} {ct1 : zM} {v1 : Int32} {j300 : Nat} (hx300 : zix (x3 + (nI 1)) j300 (X.1)) (he : C 136 [.ref 33, .int (X.2 j300)] (mk (zDm D) ct) (some (.int v1)) (mk D1 ct1)) (kk : RUN X C 86 Q 304 [.retAddr 4, .ref 0, .ref 33, .int x3] [.int v1, .int xs0] (mk D1 ct1)) : RUN X C 86 Q 295 [.retAddr 4, .ref 0, .ref 33, .int x3] [.int xs0] (mk (zDm D) ct) :=
  s_aload_n c86_295 rfl <|
  s_aloadr_n c86_296 rfl <|
  s_iload_n c86_297 rfl <|
  s_const c86_298 zcI_1 <|
  s_iadd c86_299 <|
  s_script c86_300 rfl hx300 <|
  s_callv (args := [.int (X.2 j300)]) (r := [.int xs0]) c86_301 rfl rfl (Nat.le_of_ble_eq_true rfl) rfl ⟨rfl, by decide⟩ he kk
theorem b86_304 {x3 : Int32} {xs0 : Int32} {xs1 : Int32} (k1 : xs0 = xs1 → RUN X C 86 Q 828 [.retAddr 4, .ref 0, .ref 33, .int x3] [] (mk (zDm D) ct)) (k2 : ¬ xs0 = xs1 → RUN X C 86 Q 307 [.retAddr 4, .ref 0, .ref 33, .int x3] [] (mk (zDm D) ct)) : RUN X C 86 Q 304 [.retAddr 4, .ref 0, .ref 33, .int x3] [.int xs1, .int xs0] (mk (zDm D) ct) :=
  s_iceq c86_304 k1 k2
theorem b86_307 {x3 : Int32} (hq : Q (some (.int (nI 0))) (mk (zDm D) ct)) : RUN X C 86 Q 307 [.retAddr 4, .ref 0, .ref 33, .int x3] [] (mk (zDm D) ct) :=
  s_const c86_307 zcI_0 <|
  s_iret c86_308 (xrtZ rfl (Or.inl rfl)) hq
theorem b86_309 {x3 : Int32} {D1 : zD} {ct1 : zM} {v1 : Int32} {j314 : Nat} (hx314 : zix (x3 + (nI 1)) j314 (X.1)) {j319 : Nat} (hx319 : zix (x3 + (nI 2)) j319 (X.1)) (he : C 58 [.ref 0, .int (X.2 j314), .int (X.2 j319)] (mk (zDm D) ct) (some (.int v1)) (mk D1 ct1)) (kk : RUN X C 86 Q 323 [.retAddr 4, .ref 0, .ref 33, .int x3] [.int v1] (mk D1 ct1)) : RUN X C 86 Q 309 [.retAddr 4, .ref 0, .ref 33, .int x3] [] (mk (zDm D) ct) :=
  s_aload_n c86_309 rfl <|
  s_aloadr_n c86_310 rfl <|
  s_iload_n c86_311 rfl <|
  s_const c86_312 zcI_1 <|
  s_iadd c86_313 <|
  s_script c86_314 rfl hx314 <|
  s_aloadr_n c86_315 rfl <|
  s_iload_n c86_316 rfl <|
  s_const c86_317 zcI_2 <|
  s_iadd c86_318 <|
  s_script c86_319 rfl hx319 <|
  s_callv (args := [.int (X.2 j314), .int (X.2 j319)]) (r := []) c86_320 rfl rfl (Nat.le_of_ble_eq_true rfl) rfl ⟨rfl, by decide⟩ he kk
theorem b86_323 {x3 : Int32} {xs0 : Int32} {D1 : zD} {ct1 : zM} {v1 : Int32} {j328 : Nat} (hx328 : zix (x3 + (nI 1)) j328 (X.1)) {j333 : Nat} (hx333 : zix (x3 + (nI 2)) j333 (X.1)) (he : C 139 [.ref 33, .int (X.2 j328), .int (X.2 j333)] (mk (zDm D) ct) (some (.int v1)) (mk D1 ct1)) (kk : RUN X C 86 Q 337 [.retAddr 4, .ref 0, .ref 33, .int x3] [.int v1, .int xs0] (mk D1 ct1)) : RUN X C 86 Q 323 [.retAddr 4, .ref 0, .ref 33, .int x3] [.int xs0] (mk (zDm D) ct) :=
  s_aload_n c86_323 rfl <|
  s_aloadr_n c86_324 rfl <|
  s_iload_n c86_325 rfl <|
  s_const c86_326 zcI_1 <|
  s_iadd c86_327 <|
  s_script c86_328 rfl hx328 <|
  s_aloadr_n c86_329 rfl <|
  s_iload_n c86_330 rfl <|
  s_const c86_331 zcI_2 <|
  s_iadd c86_332 <|
  s_script c86_333 rfl hx333 <|
  s_callv (args := [.int (X.2 j328), .int (X.2 j333)]) (r := [.int xs0]) c86_334 rfl rfl (Nat.le_of_ble_eq_true rfl) rfl ⟨rfl, by decide⟩ he kk
theorem b86_337 {x3 : Int32} {xs0 : Int32} {xs1 : Int32} (k1 : xs0 = xs1 → RUN X C 86 Q 828 [.retAddr 4, .ref 0, .ref 33, .int x3] [] (mk (zDm D) ct)) (k2 : ¬ xs0 = xs1 → RUN X C 86 Q 340 [.retAddr 4, .ref 0, .ref 33, .int x3] [] (mk (zDm D) ct)) : RUN X C 86 Q 337 [.retAddr 4, .ref 0, .ref 33, .int x3] [.int xs1, .int xs0] (mk (zDm D) ct) :=
  s_iceq c86_337 k1 k2
theorem b86_340 {x3 : Int32} (hq : Q (some (.int (nI 0))) (mk (zDm D) ct)) : RUN X C 86 Q 340 [.retAddr 4, .ref 0, .ref 33, .int x3] [] (mk (zDm D) ct) :=
  s_const c86_340 zcI_0 <|
  s_iret c86_341 (xrtZ rfl (Or.inl rfl)) hq
theorem b86_342 {x3 : Int32} {D1 : zD} {ct1 : zM} {v1 : Int32} (he : C 59 [.ref 0] (mk (zDm D) ct) (some (.int v1)) (mk D1 ct1)) (kk : RUN X C 86 Q 346 [.retAddr 4, .ref 0, .ref 33, .int x3] [.int v1] (mk D1 ct1)) : RUN X C 86 Q 342 [.retAddr 4, .ref 0, .ref 33, .int x3] [] (mk (zDm D) ct) :=
  s_aload_n c86_342 rfl <|
  s_callv (args := []) (r := []) c86_343 rfl rfl (Nat.le_of_ble_eq_true rfl) rfl ⟨rfl, by decide⟩ he kk
theorem b86_346 {x3 : Int32} {xs0 : Int32} {D1 : zD} {ct1 : zM} {v1 : Int32} (he : C 140 [.ref 33] (mk (zDm D) ct) (some (.int v1)) (mk D1 ct1)) (kk : RUN X C 86 Q 350 [.retAddr 4, .ref 0, .ref 33, .int x3] [.int v1, .int xs0] (mk D1 ct1)) : RUN X C 86 Q 346 [.retAddr 4, .ref 0, .ref 33, .int x3] [.int xs0] (mk (zDm D) ct) :=
  s_aload_n c86_346 rfl <|
  s_callv (args := []) (r := [.int xs0]) c86_347 rfl rfl (Nat.le_of_ble_eq_true rfl) rfl ⟨rfl, by decide⟩ he kk
theorem b86_350 {x3 : Int32} {xs0 : Int32} {xs1 : Int32} (k1 : xs0 = xs1 → RUN X C 86 Q 828 [.retAddr 4, .ref 0, .ref 33, .int x3] [] (mk (zDm D) ct)) (k2 : ¬ xs0 = xs1 → RUN X C 86 Q 353 [.retAddr 4, .ref 0, .ref 33, .int x3] [] (mk (zDm D) ct)) : RUN X C 86 Q 350 [.retAddr 4, .ref 0, .ref 33, .int x3] [.int xs1, .int xs0] (mk (zDm D) ct) :=
  s_iceq c86_350 k1 k2
theorem b86_353 {x3 : Int32} (hq : Q (some (.int (nI 0))) (mk (zDm D) ct)) : RUN X C 86 Q 353 [.retAddr 4, .ref 0, .ref 33, .int x3] [] (mk (zDm D) ct) :=
  s_const c86_353 zcI_0 <|
  s_iret c86_354 (xrtZ rfl (Or.inl rfl)) hq
theorem b86_355 {x3 : Int32} {D1 : zD} {ct1 : zM} {v1 : Int32} {j360 : Nat} (hx360 : zix (x3 + (nI 1)) j360 (X.1)) (he : C 61 [.ref 0, .int (X.2 j360)] (mk (zDm D) ct) (some (.int v1)) (mk D1 ct1)) (kk : RUN X C 86 Q 364 [.retAddr 4, .ref 0, .ref 33, .int x3] [.int v1] (mk D1 ct1)) : RUN X C 86 Q 355 [.retAddr 4, .ref 0, .ref 33, .int x3] [] (mk (zDm D) ct) :=
  s_aload_n c86_355 rfl <|
  s_aloadr_n c86_356 rfl <|
  s_iload_n c86_357 rfl <|
  s_const c86_358 zcI_1 <|
  s_iadd c86_359 <|
  s_script c86_360 rfl hx360 <|
  s_callv (args := [.int (X.2 j360)]) (r := []) c86_361 rfl rfl (Nat.le_of_ble_eq_true rfl) rfl ⟨rfl, by decide⟩ he kk
theorem b86_364 {x3 : Int32} {xs0 : Int32} {D1 : zD} {ct1 : zM} {v1 : Int32} {j369 : Nat} (hx369 : zix (x3 + (nI 1)) j369 (X.1)) (he : C 141 [.ref 33, .int (X.2 j369)] (mk (zDm D) ct) (some (.int v1)) (mk D1 ct1)) (kk : RUN X C 86 Q 373 [.retAddr 4, .ref 0, .ref 33, .int x3] [.int v1, .int xs0] (mk D1 ct1)) : RUN X C 86 Q 364 [.retAddr 4, .ref 0, .ref 33, .int x3] [.int xs0] (mk (zDm D) ct) :=
  s_aload_n c86_364 rfl <|
  s_aloadr_n c86_365 rfl <|
  s_iload_n c86_366 rfl <|
  s_const c86_367 zcI_1 <|
  s_iadd c86_368 <|
  s_script c86_369 rfl hx369 <|
  s_callv (args := [.int (X.2 j369)]) (r := [.int xs0]) c86_370 rfl rfl (Nat.le_of_ble_eq_true rfl) rfl ⟨rfl, by decide⟩ he kk
theorem b86_373 {x3 : Int32} {xs0 : Int32} {xs1 : Int32} (k1 : xs0 = xs1 → RUN X C 86 Q 828 [.retAddr 4, .ref 0, .ref 33, .int x3] [] (mk (zDm D) ct)) (k2 : ¬ xs0 = xs1 → RUN X C 86 Q 376 [.retAddr 4, .ref 0, .ref 33, .int x3] [] (mk (zDm D) ct)) : RUN X C 86 Q 373 [.retAddr 4, .ref 0, .ref 33, .int x3] [.int xs1, .int xs0] (mk (zDm D) ct) :=
  s_iceq c86_373 k1 k2
theorem b86_376 {x3 : Int32} (hq : Q (some (.int (nI 0))) (mk (zDm D) ct)) : RUN X C 86 Q 376 [.retAddr 4, .ref 0, .ref 33, .int x3] [] (mk (zDm D) ct) :=
  s_const c86_376 zcI_0 <|
  s_iret c86_377 (xrtZ rfl (Or.inl rfl)) hq
theorem b86_378 {x3 : Int32} {D1 : zD} {ct1 : zM} {v1 : Int32} {j383 : Nat} (hx383 : zix (x3 + (nI 1)) j383 (X.1)) (he : C 62 [.ref 0, .int (X.2 j383)] (mk (zDm D) ct) (some (.int v1)) (mk D1 ct1)) (kk : RUN X C 86 Q 387 [.retAddr 4, .ref 0, .ref 33, .int x3] [.int v1] (mk D1 ct1)) : RUN X C 86 Q 378 [.retAddr 4, .ref 0, .ref 33, .int x3] [] (mk (zDm D) ct) :=
  s_aload_n c86_378 rfl <|
  s_aloadr_n c86_379 rfl <|
  s_iload_n c86_380 rfl <|
  s_const c86_381 zcI_1 <|
  s_iadd c86_382 <|
  s_script c86_383 rfl hx383 <|
  s_callv (args := [.int (X.2 j383)]) (r := []) c86_384 rfl rfl (Nat.le_of_ble_eq_true rfl) rfl ⟨rfl, by decide⟩ he kk
theorem b86_387 {x3 : Int32} {xs0 : Int32} {D1 : zD} {ct1 : zM} {v1 : Int32} {j392 : Nat} (hx392 : zix (x3 + (nI 1)) j392 (X.1)) (he : C 142 [.ref 33, .int (X.2 j392)] (mk (zDm D) ct) (some (.int v1)) (mk D1 ct1)) (kk : RUN X C 86 Q 396 [.retAddr 4, .ref 0, .ref 33, .int x3] [.int v1, .int xs0] (mk D1 ct1)) : RUN X C 86 Q 387 [.retAddr 4, .ref 0, .ref 33, .int x3] [.int xs0] (mk (zDm D) ct) :=
  s_aload_n c86_387 rfl <|
  s_aloadr_n c86_388 rfl <|
  s_iload_n c86_389 rfl <|
  s_const c86_390 zcI_1 <|
  s_iadd c86_391 <|
  s_script c86_392 rfl hx392 <|
  s_callv (args := [.int (X.2 j392)]) (r := [.int xs0]) c86_393 rfl rfl (Nat.le_of_ble_eq_true rfl) rfl ⟨rfl, by decide⟩ he kk
theorem b86_396 {x3 : Int32} {xs0 : Int32} {xs1 : Int32} (k1 : xs0 = xs1 → RUN X C 86 Q 828 [.retAddr 4, .ref 0, .ref 33, .int x3] [] (mk (zDm D) ct)) (k2 : ¬ xs0 = xs1 → RUN X C 86 Q 399 [.retAddr 4, .ref 0, .ref 33, .int x3] [] (mk (zDm D) ct)) : RUN X C 86 Q 396 [.retAddr 4, .ref 0, .ref 33, .int x3] [.int xs1, .int xs0] (mk (zDm D) ct) :=
  s_iceq c86_396 k1 k2
theorem b86_399 {x3 : Int32} (hq : Q (some (.int (nI 0))) (mk (zDm D) ct)) : RUN X C 86 Q 399 [.retAddr 4, .ref 0, .ref 33, .int x3] [] (mk (zDm D) ct) :=
  s_const c86_399 zcI_0 <|
  s_iret c86_400 (xrtZ rfl (Or.inl rfl)) hq
theorem b86_401 {x3 : Int32} {D1 : zD} {ct1 : zM} {v1 : Int32} {j406 : Nat} (hx406 : zix (x3 + (nI 1)) j406 (X.1)) (he : C 63 [.ref 0, .int (X.2 j406)] (mk (zDm D) ct) (some (.int v1)) (mk D1 ct1)) (kk : RUN X C 86 Q 410 [.retAddr 4, .ref 0, .ref 33, .int x3] [.int v1] (mk D1 ct1)) : RUN X C 86 Q 401 [.retAddr 4, .ref 0, .ref 33, .int x3] [] (mk (zDm D) ct) :=
  s_aload_n c86_401 rfl <|
  s_aloadr_n c86_402 rfl <|
  s_iload_n c86_403 rfl <|
  s_const c86_404 zcI_1 <|
  s_iadd c86_405 <|
  s_script c86_406 rfl hx406 <|
  s_callv (args := [.int (X.2 j406)]) (r := []) c86_407 rfl rfl (Nat.le_of_ble_eq_true rfl) rfl ⟨rfl, by decide⟩ he kk
theorem b86_410 {x3 : Int32} {xs0 : Int32} {D1 : zD} {ct1 : zM} {v1 : Int32} {j415 : Nat} (hx415 : zix (x3 + (nI 1)) j415 (X.1)) (he : C 143 [.ref 33, .int (X.2 j415)] (mk (zDm D) ct) (some (.int v1)) (mk D1 ct1)) (kk : RUN X C 86 Q 419 [.retAddr 4, .ref 0, .ref 33, .int x3] [.int v1, .int xs0] (mk D1 ct1)) : RUN X C 86 Q 410 [.retAddr 4, .ref 0, .ref 33, .int x3] [.int xs0] (mk (zDm D) ct) :=
  s_aload_n c86_410 rfl <|
  s_aloadr_n c86_411 rfl <|
  s_iload_n c86_412 rfl <|
  s_const c86_413 zcI_1 <|
  s_iadd c86_414 <|
  s_script c86_415 rfl hx415 <|
  s_callv (args := [.int (X.2 j415)]) (r := [.int xs0]) c86_416 rfl rfl (Nat.le_of_ble_eq_true rfl) rfl ⟨rfl, by decide⟩ he kk
theorem b86_419 {x3 : Int32} {xs0 : Int32} {xs1 : Int32} (k1 : xs0 = xs1 → RUN X C 86 Q 828 [.retAddr 4, .ref 0, .ref 33, .int x3] [] (mk (zDm D) ct)) (k2 : ¬ xs0 = xs1 → RUN X C 86 Q 422 [.retAddr 4, .ref 0, .ref 33, .int x3] [] (mk (zDm D) ct)) : RUN X C 86 Q 419 [.retAddr 4, .ref 0, .ref 33, .int x3] [.int xs1, .int xs0] (mk (zDm D) ct) :=
  s_iceq c86_419 k1 k2
theorem b86_422 {x3 : Int32} (hq : Q (some (.int (nI 0))) (mk (zDm D) ct)) : RUN X C 86 Q 422 [.retAddr 4, .ref 0, .ref 33, .int x3] [] (mk (zDm D) ct) :=
  s_const c86_422 zcI_0 <|
  s_iret c86_423 (xrtZ rfl (Or.inl rfl)) hq
theorem b86_424 {x3 : Int32} {D1 : zD} {ct1 : zM} {v1 : Int32} {j429 : Nat} (hx429 : zix (x3 + (nI 1)) j429 (X.1)) (he : C 64 [.ref 0, .int (X.2 j429)] (mk (zDm D) ct) (some (.int v1)) (mk D1 ct1)) (kk : RUN X C 86 Q 433 [.retAddr 4, .ref 0, .ref 33, .int x3] [.int v1] (mk D1 ct1)) : RUN X C 86 Q 424 [.retAddr 4, .ref 0, .ref 33, .int x3] [] (mk (zDm D) ct) :=
  s_aload_n c86_424 rfl <|
  s_aloadr_n c86_425 rfl <|
  s_iload_n c86_426 rfl <|
  s_const c86_427 zcI_1 <|
  s_iadd c86_428 <|
  s_script c86_429 rfl hx429 <|
  s_callv (args := [.int (X.2 j429)]) (r := []) c86_430 rfl rfl (Nat.le_of_ble_eq_true rfl) rfl ⟨rfl, by decide⟩ he kk
theorem b86_433 {x3 : Int32} {xs0 : Int32} {D1 : zD} {ct1 : zM} {v1 : Int32} {j438 : Nat} (hx438 : zix (x3 + (nI 1)) j438 (X.1)) (he : C 144 [.ref 33, .int (X.2 j438)] (mk (zDm D) ct) (some (.int v1)) (mk D1 ct1)) (kk : RUN X C 86 Q 442 [.retAddr 4, .ref 0, .ref 33, .int x3] [.int v1, .int xs0] (mk D1 ct1)) : RUN X C 86 Q 433 [.retAddr 4, .ref 0, .ref 33, .int x3] [.int xs0] (mk (zDm D) ct) :=
  s_aload_n c86_433 rfl <|
  s_aloadr_n c86_434 rfl <|
  s_iload_n c86_435 rfl <|
  s_const c86_436 zcI_1 <|
  s_iadd c86_437 <|
  s_script c86_438 rfl hx438 <|
  s_callv (args := [.int (X.2 j438)]) (r := [.int xs0]) c86_439 rfl rfl (Nat.le_of_ble_eq_true rfl) rfl ⟨rfl, by decide⟩ he kk
theorem b86_442 {x3 : Int32} {xs0 : Int32} {xs1 : Int32} (k1 : xs0 = xs1 → RUN X C 86 Q 828 [.retAddr 4, .ref 0, .ref 33, .int x3] [] (mk (zDm D) ct)) (k2 : ¬ xs0 = xs1 → RUN X C 86 Q 445 [.retAddr 4, .ref 0, .ref 33, .int x3] [] (mk (zDm D) ct)) : RUN X C 86 Q 442 [.retAddr 4, .ref 0, .ref 33, .int x3] [.int xs1, .int xs0] (mk (zDm D) ct) :=
  s_iceq c86_442 k1 k2
theorem b86_445 {x3 : Int32} (hq : Q (some (.int (nI 0))) (mk (zDm D) ct)) : RUN X C 86 Q 445 [.retAddr 4, .ref 0, .ref 33, .int x3] [] (mk (zDm D) ct) :=
  s_const c86_445 zcI_0 <|
  s_iret c86_446 (xrtZ rfl (Or.inl rfl)) hq
theorem b86_447 {x3 : Int32} {D1 : zD} {ct1 : zM} {v1 : Int32} (he : C 66 [.ref 0] (mk (zDm D) ct) (some (.int v1)) (mk D1 ct1)) (kk : RUN X C 86 Q 451 [.retAddr 4, .ref 0, .ref 33, .int x3] [.int v1] (mk D1 ct1)) : RUN X C 86 Q 447 [.retAddr 4, .ref 0, .ref 33, .int x3] [] (mk (zDm D) ct) :=
  s_aload_n c86_447 rfl <|
  s_callv (args := []) (r := []) c86_448 rfl rfl (Nat.le_of_ble_eq_true rfl) rfl ⟨rfl, by decide⟩ he kk
theorem b86_451 {x3 : Int32} {xs0 : Int32} {D1 : zD} {ct1 : zM} {v1 : Int32} (he : C 146 [.ref 33] (mk (zDm D) ct) (some (.int v1)) (mk D1 ct1)) (kk : RUN X C 86 Q 455 [.retAddr 4, .ref 0, .ref 33, .int x3] [.int v1, .int xs0] (mk D1 ct1)) : RUN X C 86 Q 451 [.retAddr 4, .ref 0, .ref 33, .int x3] [.int xs0] (mk (zDm D) ct) :=
  s_aload_n c86_451 rfl <|
  s_callv (args := []) (r := [.int xs0]) c86_452 rfl rfl (Nat.le_of_ble_eq_true rfl) rfl ⟨rfl, by decide⟩ he kk
theorem b86_455 {x3 : Int32} {xs0 : Int32} {xs1 : Int32} (k1 : xs0 = xs1 → RUN X C 86 Q 828 [.retAddr 4, .ref 0, .ref 33, .int x3] [] (mk (zDm D) ct)) (k2 : ¬ xs0 = xs1 → RUN X C 86 Q 458 [.retAddr 4, .ref 0, .ref 33, .int x3] [] (mk (zDm D) ct)) : RUN X C 86 Q 455 [.retAddr 4, .ref 0, .ref 33, .int x3] [.int xs1, .int xs0] (mk (zDm D) ct) :=
  s_iceq c86_455 k1 k2
theorem b86_458 {x3 : Int32} (hq : Q (some (.int (nI 0))) (mk (zDm D) ct)) : RUN X C 86 Q 458 [.retAddr 4, .ref 0, .ref 33, .int x3] [] (mk (zDm D) ct) :=
  s_const c86_458 zcI_0 <|
  s_iret c86_459 (xrtZ rfl (Or.inl rfl)) hq
theorem b86_460 {x3 : Int32} {D1 : zD} {ct1 : zM} {v1 : Int32} {j465 : Nat} (hx465 : zix (x3 + (nI 1)) j465 (X.1)) {j470 : Nat} (hx470 : zix (x3 + (nI 2)) j470 (X.1)) (he : C 68 [.ref 0, .int (X.2 j465), .int (X.2 j470)] (mk (zDm D) ct) (some (.int v1)) (mk D1 ct1)) (kk : RUN X C 86 Q 474 [.retAddr 4, .ref 0, .ref 33, .int x3] [.int v1] (mk D1 ct1)) : RUN X C 86 Q 460 [.retAddr 4, .ref 0, .ref 33, .int x3] [] (mk (zDm D) ct) :=
  s_aload_n c86_460 rfl <|
  s_aloadr_n c86_461 rfl <|
  s_iload_n c86_462 rfl <|
  s_const c86_463 zcI_1 <|
  s_iadd c86_464 <|
  s_script c86_465 rfl hx465 <|
  s_aloadr_n c86_466 rfl <|
  s_iload_n c86_467 rfl <|
  s_const c86_468 zcI_2 <|
  s_iadd c86_469 <|
  s_script c86_470 rfl hx470 <|
  s_callv (args := [.int (X.2 j465), .int (X.2 j470)]) (r := []) c86_471 rfl rfl (Nat.le_of_ble_eq_true rfl) rfl ⟨rfl, by decide⟩ he kk
theorem b86_474 {x3 : Int32} {xs0 : Int32} {D1 : zD} {ct1 : zM} {v1 : Int32} {j479 : Nat} (hx479 : zix (x3 + (nI 1)) j479 (X.1)) {j484 : Nat} (hx484 : zix (x3 + (nI 2)) j484 (X.1)) (he : C 147 [.ref 33, .int (X.2 j479), .int (X.2 j484)] (mk (zDm D) ct) (some (.int v1)) (mk D1 ct1)) (kk : RUN X C 86 Q 488 [.retAddr 4, .ref 0, .ref 33, .int x3] [.int v1, .int xs0] (mk D1 ct1)) : RUN X C 86 Q 474 [.retAddr 4, .ref 0, .ref 33, .int x3] [.int xs0] (mk (zDm D) ct) :=
  s_aload_n c86_474 rfl <|
  s_aloadr_n c86_475 rfl <|
  s_iload_n c86_476 rfl <|
  s_const c86_477 zcI_1 <|
  s_iadd c86_478 <|
  s_script c86_479 rfl hx479 <|
  s_aloadr_n c86_480 rfl <|
  s_iload_n c86_481 rfl <|
  s_const c86_482 zcI_2 <|
  s_iadd c86_483 <|
  s_script c86_484 rfl hx484 <|
  s_callv (args := [.int (X.2 j479), .int (X.2 j484)]) (r := [.int xs0]) c86_485 rfl rfl (Nat.le_of_ble_eq_true rfl) rfl ⟨rfl, by decide⟩ he kk
theorem b86_488 {x3 : Int32} {xs0 : Int32} {xs1 : Int32} (k1 : xs0 = xs1 → RUN X C 86 Q 828 [.retAddr 4, .ref 0, .ref 33, .int x3] [] (mk (zDm D) ct)) (k2 : ¬ xs0 = xs1 → RUN X C 86 Q 491 [.retAddr 4, .ref 0, .ref 33, .int x3] [] (mk (zDm D) ct)) : RUN X C 86 Q 488 [.retAddr 4, .ref 0, .ref 33, .int x3] [.int xs1, .int xs0] (mk (zDm D) ct) :=
  s_iceq c86_488 k1 k2
theorem b86_491 {x3 : Int32} (hq : Q (some (.int (nI 0))) (mk (zDm D) ct)) : RUN X C 86 Q 491 [.retAddr 4, .ref 0, .ref 33, .int x3] [] (mk (zDm D) ct) :=
  s_const c86_491 zcI_0 <|
  s_iret c86_492 (xrtZ rfl (Or.inl rfl)) hq
theorem b86_493 {x3 : Int32} {D1 : zD} {ct1 : zM} {v1 : Int32} (he : C 70 [.ref 0] (mk (zDm D) ct) (some (.int v1)) (mk D1 ct1)) (kk : RUN X C 86 Q 497 [.retAddr 4, .ref 0, .ref 33, .int x3] [.int v1] (mk D1 ct1)) : RUN X C 86 Q 493 [.retAddr 4, .ref 0, .ref 33, .int x3] [] (mk (zDm D) ct) :=
  s_aload_n c86_493 rfl <|
  s_callv (args := []) (r := []) c86_494 rfl rfl (Nat.le_of_ble_eq_true rfl) rfl ⟨rfl, by decide⟩ he kk
theorem b86_497 {x3 : Int32} {xs0 : Int32} {D1 : zD} {ct1 : zM} {v1 : Int32} (he : C 150 [.ref 33] (mk (zDm D) ct) (some (.int v1)) (mk D1 ct1)) (kk : RUN X C 86 Q 501 [.retAddr 4, .ref 0, .ref 33, .int x3] [.int v1, .int xs0] (mk D1 ct1)) : RUN X C 86 Q 497 [.retAddr 4, .ref 0, .ref 33, .int x3] [.int xs0] (mk (zDm D) ct) :=
  s_aload_n c86_497 rfl <|
  s_callv (args := []) (r := [.int xs0]) c86_498 rfl rfl (Nat.le_of_ble_eq_true rfl) rfl ⟨rfl, by decide⟩ he kk
theorem b86_501 {x3 : Int32} {xs0 : Int32} {xs1 : Int32} (k1 : xs0 = xs1 → RUN X C 86 Q 828 [.retAddr 4, .ref 0, .ref 33, .int x3] [] (mk (zDm D) ct)) (k2 : ¬ xs0 = xs1 → RUN X C 86 Q 504 [.retAddr 4, .ref 0, .ref 33, .int x3] [] (mk (zDm D) ct)) : RUN X C 86 Q 501 [.retAddr 4, .ref 0, .ref 33, .int x3] [.int xs1, .int xs0] (mk (zDm D) ct) :=
  s_iceq c86_501 k1 k2
theorem b86_504 {x3 : Int32} (hq : Q (some (.int (nI 0))) (mk (zDm D) ct)) : RUN X C 86 Q 504 [.retAddr 4, .ref 0, .ref 33, .int x3] [] (mk (zDm D) ct) :=
  s_const c86_504 zcI_0 <|
  s_iret c86_505 (xrtZ rfl (Or.inl rfl)) hq
theorem b86_506 {x3 : Int32} {D1 : zD} {ct1 : zM} {v1 : Int32} {j511 : Nat} (hx511 : zix (x3 + (nI 1)) j511 (X.1)) (he : C 71 [.ref 0, .int (X.2 j511)] (mk (zDm D) ct) (some (.int v1)) (mk D1 ct1)) (kk : RUN X C 86 Q 515 [.retAddr 4, .ref 0, .ref 33, .int x3] [.int v1] (mk D1 ct1)) : RUN X C 86 Q 506 [.retAddr 4, .ref 0, .ref 33, .int x3] [] (mk (zDm D) ct) :=
  s_aload_n c86_506 rfl <|
  s_aloadr_n c86_507 rfl <|
  s_iload_n c86_508 rfl <|
  s_const c86_509 zcI_1 <|
  s_iadd c86_510 <|
  s_script c86_511 rfl hx511 <|
  s_callv (args := [.int (X.2 j511)]) (r := []) c86_512 rfl rfl (Nat.le_of_ble_eq_true rfl) rfl ⟨rfl, by decide⟩ he kk
theorem b86_515 {x3 : Int32} {xs0 : Int32} {D1 : zD} {ct1 : zM} {v1 : Int32} {j520 : Nat} (hx520 : zix (x3 + (nI 1)) j520 (X.1)) (he : C 151 [.ref 33, .int (X.2 j520)] (mk (zDm D) ct) (some (.int v1)) (mk D1 ct1)) (kk : RUN X C 86 Q 524 [.retAddr 4, .ref 0, .ref 33, .int x3] [.int v1, .int xs0] (mk D1 ct1)) : RUN X C 86 Q 515 [.retAddr 4, .ref 0, .ref 33, .int x3] [.int xs0] (mk (zDm D) ct) :=
  s_aload_n c86_515 rfl <|
  s_aloadr_n c86_516 rfl <|
  s_iload_n c86_517 rfl <|
  s_const c86_518 zcI_1 <|
  s_iadd c86_519 <|
  s_script c86_520 rfl hx520 <|
  s_callv (args := [.int (X.2 j520)]) (r := [.int xs0]) c86_521 rfl rfl (Nat.le_of_ble_eq_true rfl) rfl ⟨rfl, by decide⟩ he kk
theorem b86_524 {x3 : Int32} {xs0 : Int32} {xs1 : Int32} (k1 : xs0 = xs1 → RUN X C 86 Q 828 [.retAddr 4, .ref 0, .ref 33, .int x3] [] (mk (zDm D) ct)) (k2 : ¬ xs0 = xs1 → RUN X C 86 Q 527 [.retAddr 4, .ref 0, .ref 33, .int x3] [] (mk (zDm D) ct)) : RUN X C 86 Q 524 [.retAddr 4, .ref 0, .ref 33, .int x3] [.int xs1, .int xs0] (mk (zDm D) ct) :=
  s_iceq c86_524 k1 k2
theorem b86_527 {x3 : Int32} (hq : Q (some (.int (nI 0))) (mk (zDm D) ct)) : RUN X C 86 Q 527 [.retAddr 4, .ref 0, .ref 33, .int x3] [] (mk (zDm D) ct) :=
  s_const c86_527 zcI_0 <|
  s_iret c86_528 (xrtZ rfl (Or.inl rfl)) hq
theorem b86_529 {x3 : Int32} {D1 : zD} {ct1 : zM} {v1 : Int32} {j534 : Nat} (hx534 : zix (x3 + (nI 1)) j534 (X.1)) (he : C 80 [.ref 0, .int (X.2 j534)] (mk (zDm D) ct) (some (.int v1)) (mk D1 ct1)) (kk : RUN X C 86 Q 538 [.retAddr 4, .ref 0, .ref 33, .int x3] [.int v1] (mk D1 ct1)) : RUN X C 86 Q 529 [.retAddr 4, .ref 0, .ref 33, .int x3] [] (mk (zDm D) ct) :=
  s_aload_n c86_529 rfl <|
  s_aloadr_n c86_530 rfl <|
  s_iload_n c86_531 rfl <|
  s_const c86_532 zcI_1 <|
  s_iadd c86_533 <|
  s_script c86_534 rfl hx534 <|
  s_callv (args := [.int (X.2 j534)]) (r := []) c86_535 rfl rfl (Nat.le_of_ble_eq_true rfl) rfl ⟨rfl, by decide⟩ he kk
theorem b86_538 {x3 : Int32} {xs0 : Int32} {D1 : zD} {ct1 : zM} {v1 : Int32} {j543 : Nat} (hx543 : zix (x3 + (nI 1)) j543 (X.1)) (he : C 155 [.ref 33, .int (X.2 j543)] (mk (zDm D) ct) (some (.int v1)) (mk D1 ct1)) (kk : RUN X C 86 Q 547 [.retAddr 4, .ref 0, .ref 33, .int x3] [.int v1, .int xs0] (mk D1 ct1)) : RUN X C 86 Q 538 [.retAddr 4, .ref 0, .ref 33, .int x3] [.int xs0] (mk (zDm D) ct) :=
  s_aload_n c86_538 rfl <|
  s_aloadr_n c86_539 rfl <|
  s_iload_n c86_540 rfl <|
  s_const c86_541 zcI_1 <|
  s_iadd c86_542 <|
  s_script c86_543 rfl hx543 <|
  s_callv (args := [.int (X.2 j543)]) (r := [.int xs0]) c86_544 rfl rfl (Nat.le_of_ble_eq_true rfl) rfl ⟨rfl, by decide⟩ he kk
theorem b86_547 {x3 : Int32} {xs0 : Int32} {xs1 : Int32} (k1 : xs0 = xs1 → RUN X C 86 Q 828 [.retAddr 4, .ref 0, .ref 33, .int x3] [] (mk (zDm D) ct)) (k2 : ¬ xs0 = xs1 → RUN X C 86 Q 550 [.retAddr 4, .ref 0, .ref 33, .int x3] [] (mk (zDm D) ct)) : RUN X C 86 Q 547 [.retAddr 4, .ref 0, .ref 33, .int x3] [.int xs1, .int xs0] (mk (zDm D) ct) :=
  s_iceq c86_547 k1 k2
theorem b86_550 {x3 : Int32} (hq : Q (some (.int (nI 0))) (mk (zDm D) ct)) : RUN X C 86 Q 550 [.retAddr 4, .ref 0, .ref 33, .int x3] [] (mk (zDm D) ct) :=
  s_const c86_550 zcI_0 <|
  s_iret c86_551 (xrtZ rfl (Or.inl rfl)) hq
theorem b86_552 {x3 : Int32} {D1 : zD} {ct1 : zM} {v1 : Int32} {j557 : Nat} (hx557 : zix (x3 + (nI 1)) j557 (X.1)) (he : C 82 [.ref 0, .int (X.2 j557)] (mk (zDm D) ct) (some (.int v1)) (mk D1 ct1)) (kk : RUN X C 86 Q 561 [.retAddr 4, .ref 0, .ref 33, .int x3] [.int v1] (mk D1 ct1)) : RUN X C 86 Q 552 [.retAddr 4, .ref 0, .ref 33, .int x3] [] (mk (zDm D) ct) :=
  s_aload_n c86_552 rfl <|
  s_aloadr_n c86_553 rfl <|
  s_iload_n c86_554 rfl <|
  s_const c86_555 zcI_1 <|
  s_iadd c86_556 <|
  s_script c86_557 rfl hx557 <|
  s_callv (args := [.int (X.2 j557)]) (r := []) c86_558 rfl rfl (Nat.le_of_ble_eq_true rfl) rfl ⟨rfl, by decide⟩ he kk
theorem b86_561 {x3 : Int32} {xs0 : Int32} {D1 : zD} {ct1 : zM} {v1 : Int32} {j566 : Nat} (hx566 : zix (x3 + (nI 1)) j566 (X.1)) (he : C 156 [.ref 33, .int (X.2 j566)] (mk (zDm D) ct) (some (.int v1)) (mk D1 ct1)) (kk : RUN X C 86 Q 570 [.retAddr 4, .ref 0, .ref 33, .int x3] [.int v1, .int xs0] (mk D1 ct1)) : RUN X C 86 Q 561 [.retAddr 4, .ref 0, .ref 33, .int x3] [.int xs0] (mk (zDm D) ct) :=
  s_aload_n c86_561 rfl <|
  s_aloadr_n c86_562 rfl <|
  s_iload_n c86_563 rfl <|
  s_const c86_564 zcI_1 <|
  s_iadd c86_565 <|
  s_script c86_566 rfl hx566 <|
  s_callv (args := [.int (X.2 j566)]) (r := [.int xs0]) c86_567 rfl rfl (Nat.le_of_ble_eq_true rfl) rfl ⟨rfl, by decide⟩ he kk
theorem b86_570 {x3 : Int32} {xs0 : Int32} {xs1 : Int32} (k1 : xs0 = xs1 → RUN X C 86 Q 828 [.retAddr 4, .ref 0, .ref 33, .int x3] [] (mk (zDm D) ct)) (k2 : ¬ xs0 = xs1 → RUN X C 86 Q 573 [.retAddr 4, .ref 0, .ref 33, .int x3] [] (mk (zDm D) ct)) : RUN X C 86 Q 570 [.retAddr 4, .ref 0, .ref 33, .int x3] [.int xs1, .int xs0] (mk (zDm D) ct) :=
  s_iceq c86_570 k1 k2
theorem b86_573 {x3 : Int32} (hq : Q (some (.int (nI 0))) (mk (zDm D) ct)) : RUN X C 86 Q 573 [.retAddr 4, .ref 0, .ref 33, .int x3] [] (mk (zDm D) ct) :=
  s_const c86_573 zcI_0 <|
  s_iret c86_574 (xrtZ rfl (Or.inl rfl)) hq
theorem b86_575 {x3 : Int32} {D1 : zD} {ct1 : zM} {v1 : Int32} {j580 : Nat} (hx580 : zix (x3 + (nI 1)) j580 (X.1)) {j585 : Nat} (hx585 : zix (x3 + (nI 2)) j585 (X.1)) (he : C 83 [.ref 0, .int (X.2 j580), .int (X.2 j585)] (mk (zDm D) ct) (some (.int v1)) (mk D1 ct1)) (kk : RUN X C 86 Q 589 [.retAddr 4, .ref 0, .ref 33, .int x3] [.int v1] (mk D1 ct1)) : RUN X C 86 Q 575 [.retAddr 4, .ref 0, .ref 33, .int x3] [] (mk (zDm D) ct) :=
  s_aload_n c86_575 rfl <|
  s_aloadr_n c86_576 rfl <|
  s_iload_n c86_577 rfl <|
  s_const c86_578 zcI_1 <|
  s_iadd c86_579 <|
  s_script c86_580 rfl hx580 <|
  s_aloadr_n c86_581 rfl <|
  s_iload_n c86_582 rfl <|
  s_const c86_583 zcI_2 <|
  s_iadd c86_584 <|
  s_script c86_585 rfl hx585 <|
  s_callv (args := [.int (X.2 j580), .int (X.2 j585)]) (r := []) c86_586 rfl rfl (Nat.le_of_ble_eq_true rfl) rfl ⟨rfl, by decide⟩ he kk
theorem b86_589 {x3 : Int32} {xs0 : Int32} {D1 : zD} {ct1 : zM} {v1 : Int32} {j594 : Nat} (hx594 : zix (x3 + (nI 1)) j594 (X.1)) {j599 : Nat} (hx599 : zix (x3 + (nI 2)) j599 (X.1)) (he : C 157 [.ref 33, .int (X.2 j594), .int (X.2 j599)] (mk (zDm D) ct) (some (.int v1)) (mk D1 ct1)) (kk : RUN X C 86 Q 603 [.retAddr 4, .ref 0, .ref 33, .int x3] [.int v1, .int xs0] (mk D1 ct1)) : RUN X C 86 Q 589 [.retAddr 4, .ref 0, .ref 33, .int x3] [.int xs0] (mk (zDm D) ct) :=
  s_aload_n c86_589 rfl <|
  s_aloadr_n c86_590 rfl <|
  s_iload_n c86_591 rfl <|
  s_const c86_592 zcI_1 <|
  s_iadd c86_593 <|
  s_script c86_594 rfl hx594 <|
  s_aloadr_n c86_595 rfl <|
  s_iload_n c86_596 rfl <|
  s_const c86_597 zcI_2 <|
  s_iadd c86_598 <|
  s_script c86_599 rfl hx599 <|
  s_callv (args := [.int (X.2 j594), .int (X.2 j599)]) (r := [.int xs0]) c86_600 rfl rfl (Nat.le_of_ble_eq_true rfl) rfl ⟨rfl, by decide⟩ he kk
theorem b86_603 {x3 : Int32} {xs0 : Int32} {xs1 : Int32} (k1 : xs0 = xs1 → RUN X C 86 Q 828 [.retAddr 4, .ref 0, .ref 33, .int x3] [] (mk (zDm D) ct)) (k2 : ¬ xs0 = xs1 → RUN X C 86 Q 606 [.retAddr 4, .ref 0, .ref 33, .int x3] [] (mk (zDm D) ct)) : RUN X C 86 Q 603 [.retAddr 4, .ref 0, .ref 33, .int x3] [.int xs1, .int xs0] (mk (zDm D) ct) :=
  s_iceq c86_603 k1 k2
theorem b86_606 {x3 : Int32} (hq : Q (some (.int (nI 0))) (mk (zDm D) ct)) : RUN X C 86 Q 606 [.retAddr 4, .ref 0, .ref 33, .int x3] [] (mk (zDm D) ct) :=
  s_const c86_606 zcI_0 <|
  s_iret c86_607 (xrtZ rfl (Or.inl rfl)) hq
theorem b86_608 {x3 : Int32} {D1 : zD} {ct1 : zM} {v1 : Int32} (he : C 84 [.ref 0] (mk (zDm D) ct) (some (.int v1)) (mk D1 ct1)) (kk : RUN X C 86 Q 612 [.retAddr 4, .ref 0, .ref 33, .int x3] [.int v1] (mk D1 ct1)) : RUN X C 86 Q 608 [.retAddr 4, .ref 0, .ref 33, .int x3] [] (mk (zDm D) ct) :=
  s_aload_n c86_608 rfl <|
  s_callv (args := []) (r := []) c86_609 rfl rfl (Nat.le_of_ble_eq_true rfl) rfl ⟨rfl, by decide⟩ he kk
theorem b86_612 {x3 : Int32} {xs0 : Int32} {D1 : zD} {ct1 : zM} {v1 : Int32} (he : C 158 [.ref 33] (mk (zDm D) ct) (some (.int v1)) (mk D1 ct1)) (kk : RUN X C 86 Q 616 [.retAddr 4, .ref 0, .ref 33, .int x3] [.int v1, .int xs0] (mk D1 ct1)) : RUN X C 86 Q 612 [.retAddr 4, .ref 0, .ref 33, .int x3] [.int xs0] (mk (zDm D) ct) :=
  s_aload_n c86_612 rfl <|
  s_callv (args := []) (r := [.int xs0]) c86_613 rfl rfl (Nat.le_of_ble_eq_true rfl) rfl ⟨rfl, by decide⟩ he kk
theorem b86_616 {x3 : Int32} {xs0 : Int32} {xs1 : Int32} (k1 : xs0 = xs1 → RUN X C 86 Q 828 [.retAddr 4, .ref 0, .ref 33, .int x3] [] (mk (zDm D) ct)) (k2 : ¬ xs0 = xs1 → RUN X C 86 Q 619 [.retAddr 4, .ref 0, .ref 33, .int x3] [] (mk (zDm D) ct)) : RUN X C 86 Q 616 [.retAddr 4, .ref 0, .ref 33, .int x3] [.int xs1, .int xs0] (mk (zDm D) ct) :=
  s_iceq c86_616 k1 k2
theorem b86_619 {x3 : Int32} (hq : Q (some (.int (nI 0))) (mk (zDm D) ct)) : RUN X C 86 Q 619 [.retAddr 4, .ref 0, .ref 33, .int x3] [] (mk (zDm D) ct) :=
  s_const c86_619 zcI_0 <|
  s_iret c86_620 (xrtZ rfl (Or.inl rfl)) hq
theorem b86_621 {x3 : Int32} {D1 : zD} {ct1 : zM} {v1 : Int32} {j626 : Nat} (hx626 : zix (x3 + (nI 1)) j626 (X.1)) (he : C 85 [.ref 0, .int (X.2 j626)] (mk (zDm D) ct) (some (.int v1)) (mk D1 ct1)) (kk : RUN X C 86 Q 630 [.retAddr 4, .ref 0, .ref 33, .int x3] [.int v1] (mk D1 ct1)) : RUN X C 86 Q 621 [.retAddr 4, .ref 0, .ref 33, .int x3] [] (mk (zDm D) ct) :=
  s_aload_n c86_621 rfl <|
  s_aloadr_n c86_622 rfl <|
  s_iload_n c86_623 rfl <|
  s_const c86_624 zcI_1 <|
  s_iadd c86_625 <|
  s_script c86_626 rfl hx626 <|
  s_callv (args := [.int (X.2 j626)]) (r := []) c86_627 rfl rfl (Nat.le_of_ble_eq_true rfl) rfl ⟨rfl, by decide⟩ he kk
theorem b86_630 {x3 : Int32} {xs0 : Int32} {D1 : zD} {ct1 : zM} {v1 : Int32} {j635 : Nat} (hx635 : zix (x3 + (nI 1)) j635 (X.1)) (he : C 159 [.ref 33, .int (X.2 j635)] (mk (zDm D) ct) (some (.int v1)) (mk D1 ct1)) (kk : RUN X C 86 Q 639 [.retAddr 4, .ref 0, .ref 33, .int x3] [.int v1, .int xs0] (mk D1 ct1)) : RUN X C 86 Q 630 [.retAddr 4, .ref 0, .ref 33, .int x3] [.int xs0] (mk (zDm D) ct) :=
  s_aload_n c86_630 rfl <|
  s_aloadr_n c86_631 rfl <|
  s_iload_n c86_632 rfl <|
  s_const c86_633 zcI_1 <|
  s_iadd c86_634 <|
  s_script c86_635 rfl hx635 <|
  s_callv (args := [.int (X.2 j635)]) (r := [.int xs0]) c86_636 rfl rfl (Nat.le_of_ble_eq_true rfl) rfl ⟨rfl, by decide⟩ he kk
theorem b86_639 {x3 : Int32} {xs0 : Int32} {xs1 : Int32} (k1 : xs0 = xs1 → RUN X C 86 Q 828 [.retAddr 4, .ref 0, .ref 33, .int x3] [] (mk (zDm D) ct)) (k2 : ¬ xs0 = xs1 → RUN X C 86 Q 642 [.retAddr 4, .ref 0, .ref 33, .int x3] [] (mk (zDm D) ct)) : RUN X C 86 Q 639 [.retAddr 4, .ref 0, .ref 33, .int x3] [.int xs1, .int xs0] (mk (zDm D) ct) :=
  s_iceq c86_639 k1 k2
theorem b86_642 {x3 : Int32} (hq : Q (some (.int (nI 0))) (mk (zDm D) ct)) : RUN X C 86 Q 642 [.retAddr 4, .ref 0, .ref 33, .int x3] [] (mk (zDm D) ct) :=
  s_const c86_642 zcI_0 <|
  s_iret c86_643 (xrtZ rfl (Or.inl rfl)) hq
theorem b86_644 {x3 : Int32} {D1 : zD} {ct1 : zM} {v1 : Int32} {j649 : Nat} (hx649 : zix (x3 + (nI 1)) j649 (X.1)) (he : C 89 [.ref 0, .int (X.2 j649)] (mk (zDm D) ct) (some (.int v1)) (mk D1 ct1)) (kk : RUN X C 86 Q 653 [.retAddr 4, .ref 0, .ref 33, .int x3] [.int v1] (mk D1 ct1)) : RUN X C 86 Q 644 [.retAddr 4, .ref 0, .ref 33, .int x3] [] (mk (zDm D) ct) :=
  s_aload_n c86_644 rfl <|
  s_aloadr_n c86_645 rfl <|
  s_iload_n c86_646 rfl <|
  s_const c86_647 zcI_1 <|
  s_iadd c86_648 <|
  s_script c86_649 rfl hx649 <|
  s_callv (args := [.int (X.2 j649)]) (r := []) c86_650 rfl rfl (Nat.le_of_ble_eq_true rfl) rfl ⟨rfl, by decide⟩ he kk
theorem b86_653 {x3 : Int32} {xs0 : Int32} {D1 : zD} {ct1 : zM} {v1 : Int32} {j658 : Nat} (hx658 : zix (x3 + (nI 1)) j658 (X.1)) (he : C 162 [.ref 33, .int (X.2 j658)] (mk (zDm D) ct) (some (.int v1)) (mk D1 ct1)) (kk : RUN X C 86 Q 662 [.retAddr 4, .ref 0, .ref 33, .int x3] [.int v1, .int xs0] (mk D1 ct1)) : RUN X C 86 Q 653 [.retAddr 4, .ref 0, .ref 33, .int x3] [.int xs0] (mk (zDm D) ct) :=
  s_aload_n c86_653 rfl <|
  s_aloadr_n c86_654 rfl <|
  s_iload_n c86_655 rfl <|
  s_const c86_656 zcI_1 <|
  s_iadd c86_657 <|
  s_script c86_658 rfl hx658 <|
  s_callv (args := [.int (X.2 j658)]) (r := [.int xs0]) c86_659 rfl rfl (Nat.le_of_ble_eq_true rfl) rfl ⟨rfl, by decide⟩ he kk
theorem b86_662 {x3 : Int32} {xs0 : Int32} {xs1 : Int32} (k1 : xs0 = xs1 → RUN X C 86 Q 828 [.retAddr 4, .ref 0, .ref 33, .int x3] [] (mk (zDm D) ct)) (k2 : ¬ xs0 = xs1 → RUN X C 86 Q 665 [.retAddr 4, .ref 0, .ref 33, .int x3] [] (mk (zDm D) ct)) : RUN X C 86 Q 662 [.retAddr 4, .ref 0, .ref 33, .int x3] [.int xs1, .int xs0] (mk (zDm D) ct) :=
  s_iceq c86_662 k1 k2
theorem b86_665 {x3 : Int32} (hq : Q (some (.int (nI 0))) (mk (zDm D) ct)) : RUN X C 86 Q 665 [.retAddr 4, .ref 0, .ref 33, .int x3] [] (mk (zDm D) ct) :=
  s_const c86_665 zcI_0 <|
  s_iret c86_666 (xrtZ rfl (Or.inl rfl)) hq
theorem b86_667 {x3 : Int32} {D1 : zD} {ct1 : zM} {v1 : Int32} {j672 : Nat} (hx672 : zix (x3 + (nI 1)) j672 (X.1)) (he : C 90 [.ref 0, .int (X.2 j672)] (mk (zDm D) ct) (some (.int v1)) (mk D1 ct1)) (kk : RUN X C 86 Q 676 [.retAddr 4, .ref 0, .ref 33, .int x3] [.int v1] (mk D1 ct1)) : RUN X C 86 Q 667 [.retAddr 4, .ref 0, .ref 33, .int x3] [] (mk (zDm D) ct) :=
  s_aload_n c86_667 rfl <|
  s_aloadr_n c86_668 rfl <|
  s_iload_n c86_669 rfl <|
  s_const c86_670 zcI_1 <|
  s_iadd c86_671 <|
  s_script c86_672 rfl hx672 <|
  s_callv (args := [.int (X.2 j672)]) (r := []) c86_673 rfl rfl (Nat.le_of_ble_eq_true rfl) rfl ⟨rfl, by decide⟩ he kk
theorem b86_676 {x3 : Int32} {xs0 : Int32} {D1 : zD} {ct1 : zM} {v1 : Int32} {j681 : Nat} (hx681 : zix (x3 + (nI 1)) j681 (X.1)) (he : C 163 [.ref 33, .int (X.2 j681)] (mk (zDm D) ct) (some (.int v1)) (mk D1 ct1)) (kk : RUN X C 86 Q 685 [.retAddr 4, .ref 0, .ref 33, .int x3] [.int v1, .int xs0] (mk D1 ct1)) : RUN X C 86 Q 676 [.retAddr 4, .ref 0, .ref 33, .int x3] [.int xs0] (mk (zDm D) ct) :=
  s_aload_n c86_676 rfl <|
  s_aloadr_n c86_677 rfl <|
  s_iload_n c86_678 rfl <|
  s_const c86_679 zcI_1 <|
  s_iadd c86_680 <|
  s_script c86_681 rfl hx681 <|
  s_callv (args := [.int (X.2 j681)]) (r := [.int xs0]) c86_682 rfl rfl (Nat.le_of_ble_eq_true rfl) rfl ⟨rfl, by decide⟩ he kk
theorem b86_685 {x3 : Int32} {xs0 : Int32} {xs1 : Int32} (k1 : xs0 = xs1 → RUN X C 86 Q 828 [.retAddr 4, .ref 0, .ref 33, .int x3] [] (mk (zDm D) ct)) (k2 : ¬ xs0 = xs1 → RUN X C 86 Q 688 [.retAddr 4, .ref 0, .ref 33, .int x3] [] (mk (zDm D) ct)) : RUN X C 86 Q 685 [.retAddr 4, .ref 0, .ref 33, .int x3] [.int xs1, .int xs0] (mk (zDm D) ct) :=
  s_iceq c86_685 k1 k2
theorem b86_688 {x3 : Int32} (hq : Q (some (.int (nI 0))) (mk (zDm D) ct)) : RUN X C 86 Q 688 [.retAddr 4, .ref 0, .ref 33, .int x3] [] (mk (zDm D) ct) :=
  s_const c86_688 zcI_0 <|
  s_iret c86_689 (xrtZ rfl (Or.inl rfl)) hq
theorem b86_690 {x3 : Int32} {D1 : zD} {ct1 : zM} {v1 : Int32} {j695 : Nat} (hx695 : zix (x3 + (nI 1)) j695 (X.1)) (he : C 91 [.ref 0, .int (X.2 j695)] (mk (zDm D) ct) (some (.int v1)) (mk D1 ct1)) (kk : RUN X C 86 Q 699 [.retAddr 4, .ref 0, .ref 33, .int x3] [.int v1] (mk D1 ct1)) : RUN X C 86 Q 690 [.retAddr 4, .ref 0, .ref 33, .int x3] [] (mk (zDm D) ct) :=
  s_aload_n c86_690 rfl <|
  s_aloadr_n c86_691 rfl <|
  s_iload_n c86_692 rfl <|
  s_const c86_693 zcI_1 <|
  s_iadd c86_694 <|
  s_script c86_695 rfl hx695 <|
  s_callv (args := [.int (X.2 j695)]) (r := []) c86_696 rfl rfl (Nat.le_of_ble_eq_true rfl) rfl ⟨rfl, by decide⟩ he kk
theorem b86_699 {x3 : Int32} {xs0 : Int32} {D1 : zD} {ct1 : zM} {v1 : Int32} {j704 : Nat} (hx704 : zix (x3 + (nI 1)) j704 (X.1)) (he : C 164 [.ref 33, .int (X.2 j704)] (mk (zDm D) ct) (some (.int v1)) (mk D1 ct1)) (kk : RUN X C 86 Q 708 [.retAddr 4, .ref 0, .ref 33, .int x3] [.int v1, .int xs0] (mk D1 ct1)) : RUN X C 86 Q 699 [.retAddr 4, .ref 0, .ref 33, .int x3] [.int xs0] (mk (zDm D) ct) :=
  s_aload_n c86_699 rfl <|
  s_aloadr_n c86_700 rfl <|
  s_iload_n c86_701 rfl <|
  s_const c86_702 zcI_1 <|
  s_iadd c86_703 <|
  s_script c86_704 rfl hx704 <|
  s_callv (args := [.int (X.2 j704)]) (r := [.int xs0]) c86_705 rfl rfl (Nat.le_of_ble_eq_true rfl) rfl ⟨rfl, by decide⟩ he kk
theorem b86_708 {x3 : Int32} {xs0 : Int32} {xs1 : Int32} (k1 : xs0 = xs1 → RUN X C 86 Q 828 [.retAddr 4, .ref 0, .ref 33, .int x3] [] (mk (zDm D) ct)) (k2 : ¬ xs0 = xs1 → RUN X C 86 Q 711 [.retAddr 4, .ref 0, .ref 33, .int x3] [] (mk (zDm D) ct)) : RUN X C 86 Q 708 [.retAddr 4, .ref 0, .ref 33, .int x3] [.int xs1, .int xs0] (mk (zDm D) ct) :=
  s_iceq c86_708 k1 k2
theorem b86_711 {x3 : Int32} (hq : Q (some (.int (nI 0))) (mk (zDm D) ct)) : RUN X C 86 Q 711 [.retAddr 4, .ref 0, .ref 33, .int x3] [] (mk (zDm D) ct) :=
  s_const c86_711 zcI_0 <|
  s_iret c86_712 (xrtZ rfl (Or.inl rfl)) hq
theorem b86_713 {x3 : Int32} {D1 : zD} {ct1 : zM} {v1 : Int32} {j718 : Nat} (hx718 : zix (x3 + (nI 1)) j718 (X.1)) (he : C 93 [.ref 0, .int (X.2 j718)] (mk (zDm D) ct) (some (.int v1)) (mk D1 ct1)) (kk : RUN X C 86 Q 722 [.retAddr 4, .ref 0, .ref 33, .int x3] [.int v1] (mk D1 ct1)) : RUN X C 86 Q 713 [.retAddr 4, .ref 0, .ref 33, .int x3] [] (mk (zDm D) ct) :=
  s_aload_n c86_713 rfl <|
  s_aloadr_n c86_714 rfl <|
  s_iload_n c86_715 rfl <|
  s_const c86_716 zcI_1 <|
  s_iadd c86_717 <|
  s_script c86_718 rfl hx718 <|
  s_callv (args := [.int (X.2 j718)]) (r := []) c86_719 rfl rfl (Nat.le_of_ble_eq_true rfl) rfl ⟨rfl, by decide⟩ he kk
theorem b86_722 {x3 : Int32} {xs0 : Int32} {D1 : zD} {ct1 : zM} {v1 : Int32} {j727 : Nat} (hx727 : zix (x3 + (nI 1)) j727 (X.1)) (he : C 166 [.ref 33, .int (X.2 j727)] (mk (zDm D) ct) (some (.int v1)) (mk D1 ct1)) (kk : RUN X C 86 Q 731 [.retAddr 4, .ref 0, .ref 33, .int x3] [.int v1, .int xs0] (mk D1 ct1)) : RUN X C 86 Q 722 [.retAddr 4, .ref 0, .ref 33, .int x3] [.int xs0] (mk (zDm D) ct) :=
  s_aload_n c86_722 rfl <|
  s_aloadr_n c86_723 rfl <|
  s_iload_n c86_724 rfl <|
  s_const c86_725 zcI_1 <|
  s_iadd c86_726 <|
  s_script c86_727 rfl hx727 <|
  s_callv (args := [.int (X.2 j727)]) (r := [.int xs0]) c86_728 rfl rfl (Nat.le_of_ble_eq_true rfl) rfl ⟨rfl, by decide⟩ he kk
theorem b86_731 {x3 : Int32} {xs0 : Int32} {xs1 : Int32} (k1 : xs0 = xs1 → RUN X C 86 Q 828 [.retAddr 4, .ref 0, .ref 33, .int x3] [] (mk (zDm D) ct)) (k2 : ¬ xs0 = xs1 → RUN X C 86 Q 734 [.retAddr 4, .ref 0, .ref 33, .int x3] [] (mk (zDm D) ct)) : RUN X C 86 Q 731 [.retAddr 4, .ref 0, .ref 33, .int x3] [.int xs1, .int xs0] (mk (zDm D) ct) :=
  s_iceq c86_731 k1 k2
theorem b86_734 {x3 : Int32} (hq : Q (some (.int (nI 0))) (mk (zDm D) ct)) : RUN X C 86 Q 734 [.retAddr 4, .ref 0, .ref 33, .int x3] [] (mk (zDm D) ct) :=
  s_const c86_734 zcI_0 <|
  s_iret c86_735 (xrtZ rfl (Or.inl rfl)) hq
theorem b86_736 {x3 : Int32} {D1 : zD} {ct1 : zM} {v1 : Int32} {j741 : Nat} (hx741 : zix (x3 + (nI 1)) j741 (X.1)) {j746 : Nat} (hx746 : zix (x3 + (nI 2)) j746 (X.1)) {j751 : Nat} (hx751 : zix (x3 + (nI 3)) j751 (X.1)) (he : C 95 [.ref 0, .int (X.2 j741), .int (X.2 j746), .int (X.2 j751)] (mk (zDm D) ct) (some (.int v1)) (mk D1 ct1)) (kk : RUN X C 86 Q 755 [.retAddr 4, .ref 0, .ref 33, .int x3] [.int v1] (mk D1 ct1)) : RUN X C 86 Q 736 [.retAddr 4, .ref 0, .ref 33, .int x3] [] (mk (zDm D) ct) :=
  s_aload_n c86_736 rfl <|
  s_aloadr_n c86_737 rfl <|
  s_iload_n c86_738 rfl <|
  s_const c86_739 zcI_1 <|
  s_iadd c86_740 <|
  s_script c86_741 rfl hx741 <|
  s_aloadr_n c86_742 rfl <|
  s_iload_n c86_743 rfl <|
  s_const c86_744 zcI_2 <|
  s_iadd c86_745 <|
  s_script c86_746 rfl hx746 <|
  s_aloadr_n c86_747 rfl <|
  s_iload_n c86_748 rfl <|
  s_const c86_749 zcI_3 <|
  s_iadd c86_750 <|
  s_script c86_751 rfl hx751 <|
  s_callv (args := [.int (X.2 j741), .int (X.2 j746), .int (X.2 j751)]) (r := []) c86_752 rfl rfl (Nat.le_of_ble_eq_true rfl) rfl ⟨rfl, by decide⟩ he kk
theorem b86_755 {x3 : Int32} {xs0 : Int32} {D1 : zD} {ct1 : zM} {v1 : Int32} {j760 : Nat} (hx760 : zix (x3 + (nI 1)) j760 (X.1)) {j765 : Nat} (hx765 : zix (x3 + (nI 2)) j765 (X.1)) {j770 : Nat} (hx770 : zix (x3 + (nI 3)) j770 (X.1)) (he : C 167 [.ref 33, .int (X.2 j760), .int (X.2 j765), .int (X.2 j770)] (mk (zDm D) ct) (some (.int v1)) (mk D1 ct1)) (kk : RUN X C 86 Q 774 [.retAddr 4, .ref 0, .ref 33, .int x3] [.int v1, .int xs0] (mk D1 ct1)) : RUN X C 86 Q 755 [.retAddr 4, .ref 0, .ref 33, .int x3] [.int xs0] (mk (zDm D) ct) :=
  s_aload_n c86_755 rfl <|
  s_aloadr_n c86_756 rfl <|
  s_iload_n c86_757 rfl <|
  s_const c86_758 zcI_1 <|
  s_iadd c86_759 <|
  s_script c86_760 rfl hx760 <|
  s_aloadr_n c86_761 rfl <|
  s_iload_n c86_762 rfl <|
  s_const c86_763 zcI_2 <|
  s_iadd c86_764 <|
  s_script c86_765 rfl hx765 <|
  s_aloadr_n c86_766 rfl <|
  s_iload_n c86_767 rfl <|
  s_const c86_768 zcI_3 <|
  s_iadd c86_769 <|
  s_script c86_770 rfl hx770 <|
  s_callv (args := [.int (X.2 j760), .int (X.2 j765), .int (X.2 j770)]) (r := [.int xs0]) c86_771 rfl rfl (Nat.le_of_ble_eq_true rfl) rfl ⟨rfl, by decide⟩ he kk
theorem b86_774 {x3 : Int32} {xs0 : Int32} {xs1 : Int32} (k1 : xs0 = xs1 → RUN X C 86 Q 828 [.retAddr 4, .ref 0, .ref 33, .int x3] [] (mk (zDm D) ct)) (k2 : ¬ xs0 = xs1 → RUN X C 86 Q 777 [.retAddr 4, .ref 0, .ref 33, .int x3] [] (mk (zDm D) ct)) : RUN X C 86 Q 774 [.retAddr 4, .ref 0, .ref 33, .int x3] [.int xs1, .int xs0] (mk (zDm D) ct) :=
  s_iceq c86_774 k1 k2
theorem b86_777 {x3 : Int32} (hq : Q (some (.int (nI 0))) (mk (zDm D) ct)) : RUN X C 86 Q 777 [.retAddr 4, .ref 0, .ref 33, .int x3] [] (mk (zDm D) ct) :=
  s_const c86_777 zcI_0 <|
  s_iret c86_778 (xrtZ rfl (Or.inl rfl)) hq
theorem b86_779 {x3 : Int32} {D1 : zD} {ct1 : zM} {v1 : Int32} (he : C 98 [.ref 0] (mk (zDm D) ct) (some (.int v1)) (mk D1 ct1)) (kk : RUN X C 86 Q 783 [.retAddr 4, .ref 0, .ref 33, .int x3] [.int v1] (mk D1 ct1)) : RUN X C 86 Q 779 [.retAddr 4, .ref 0, .ref 33, .int x3] [] (mk (zDm D) ct) :=
  s_aload_n c86_779 rfl <|
  s_callv (args := []) (r := []) c86_780 rfl rfl (Nat.le_of_ble_eq_true rfl) rfl ⟨rfl, by decide⟩ he kk
theorem b86_783 {x3 : Int32} {xs0 : Int32} {D1 : zD} {ct1 : zM} {v1 : Int32} (he : C 168 [.ref 33] (mk (zDm D) ct) (some (.int v1)) (mk D1 ct1)) (kk : RUN X C 86 Q 787 [.retAddr 4, .ref 0, .ref 33, .int x3] [.int v1, .int xs0] (mk D1 ct1)) : RUN X C 86 Q 783 [.retAddr 4, .ref 0, .ref 33, .int x3] [.int xs0] (mk (zDm D) ct) :=
  s_aload_n c86_783 rfl <|
  s_callv (args := []) (r := [.int xs0]) c86_784 rfl rfl (Nat.le_of_ble_eq_true rfl) rfl ⟨rfl, by decide⟩ he kk
theorem b86_787 {x3 : Int32} {xs0 : Int32} {xs1 : Int32} (k1 : xs0 = xs1 → RUN X C 86 Q 828 [.retAddr 4, .ref 0, .ref 33, .int x3] [] (mk (zDm D) ct)) (k2 : ¬ xs0 = xs1 → RUN X C 86 Q 790 [.retAddr 4, .ref 0, .ref 33, .int x3] [] (mk (zDm D) ct)) : RUN X C 86 Q 787 [.retAddr 4, .ref 0, .ref 33, .int x3] [.int xs1, .int xs0] (mk (zDm D) ct) :=
  s_iceq c86_787 k1 k2
theorem b86_790 {x3 : Int32} (hq : Q (some (.int (nI 0))) (mk (zDm D) ct)) : RUN X C 86 Q 790 [.retAddr 4, .ref 0, .ref 33, .int x3] [] (mk (zDm D) ct) :=
  s_const c86_790 zcI_0 <|
  s_iret c86_791 (xrtZ rfl (Or.inl rfl)) hq
theorem b86_792 {x3 : Int32} {D1 : zD} {ct1 : zM} {v1 : Int32} (he : C 99 [.ref 0] (mk (zDm D) ct) (some (.int v1)) (mk D1 ct1)) (kk : RUN X C 86 Q 796 [.retAddr 4, .ref 0, .ref 33, .int x3] [.int v1] (mk D1 ct1)) : RUN X C 86 Q 792 [.retAddr 4, .ref 0, .ref 33, .int x3] [] (mk (zDm D) ct) :=
  s_aload_n c86_792 rfl <|
  s_callv (args := []) (r := []) c86_793 rfl rfl (Nat.le_of_ble_eq_true rfl) rfl ⟨rfl, by decide⟩ he kk
theorem b86_796 {x3 : Int32} {xs0 : Int32} {D1 : zD} {ct1 : zM} {v1 : Int32} (he : C 169 [.ref 33] (mk (zDm D) ct) (some (.int v1)) (mk D1 ct1)) (kk : RUN X C 86 Q 800 [.retAddr 4, .ref 0, .ref 33, .int x3] [.int v1, .int xs0] (mk D1 ct1)) : RUN X C 86 Q 796 [.retAddr 4, .ref 0, .ref 33, .int x3] [.int xs0] (mk (zDm D) ct) :=
  s_aload_n c86_796 rfl <|
  s_callv (args := []) (r := [.int xs0]) c86_797 rfl rfl (Nat.le_of_ble_eq_true rfl) rfl ⟨rfl, by decide⟩ he kk
theorem b86_800 {x3 : Int32} {xs0 : Int32} {xs1 : Int32} (k1 : xs0 = xs1 → RUN X C 86 Q 828 [.retAddr 4, .ref 0, .ref 33, .int x3] [] (mk (zDm D) ct)) (k2 : ¬ xs0 = xs1 → RUN X C 86 Q 803 [.retAddr 4, .ref 0, .ref 33, .int x3] [] (mk (zDm D) ct)) : RUN X C 86 Q 800 [.retAddr 4, .ref 0, .ref 33, .int x3] [.int xs1, .int xs0] (mk (zDm D) ct) :=
  s_iceq c86_800 k1 k2
theorem b86_803 {x3 : Int32} (hq : Q (some (.int (nI 0))) (mk (zDm D) ct)) : RUN X C 86 Q 803 [.retAddr 4, .ref 0, .ref 33, .int x3] [] (mk (zDm D) ct) :=
  s_const c86_803 zcI_0 <|
  s_iret c86_804 (xrtZ rfl (Or.inl rfl)) hq
theorem b86_805 {x3 : Int32} {D1 : zD} {ct1 : zM} {v1 : Int32} {j810 : Nat} (hx810 : zix (x3 + (nI 1)) j810 (X.1)) (he : C 100 [.ref 0, .int (X.2 j810)] (mk (zDm D) ct) (some (.int v1)) (mk D1 ct1)) (kk : RUN X C 86 Q 814 [.retAddr 4, .ref 0, .ref 33, .int x3] [.int v1] (mk D1 ct1)) : RUN X C 86 Q 805 [.retAddr 4, .ref 0, .ref 33, .int x3] [] (mk (zDm D) ct) :=
  s_aload_n c86_805 rfl <|
  s_aloadr_n c86_806 rfl <|
  s_iload_n c86_807 rfl <|
  s_const c86_808 zcI_1 <|
  s_iadd c86_809 <|
  s_script c86_810 rfl hx810 <|
  s_callv (args := [.int (X.2 j810)]) (r := []) c86_811 rfl rfl (Nat.le_of_ble_eq_true rfl) rfl ⟨rfl, by decide⟩ he kk
theorem b86_814 {x3 : Int32} {xs0 : Int32} {D1 : zD} {ct1 : zM} {v1 : Int32} {j819 : Nat} (hx819 : zix (x3 + (nI 1)) j819 (X.1)) (he : C 170 [.ref 33, .int (X.2 j819)] (mk (zDm D) ct) (some (.int v1)) (mk D1 ct1)) (kk : RUN X C 86 Q 823 [.retAddr 4, .ref 0, .ref 33, .int x3] [.int v1, .int xs0] (mk D1 ct1)) : RUN X C 86 Q 814 [.retAddr 4, .ref 0, .ref 33, .int x3] [.int xs0] (mk (zDm D) ct) :=
  s_aload_n c86_814 rfl <|
  s_aloadr_n c86_815 rfl <|
  s_iload_n c86_816 rfl <|
  s_const c86_817 zcI_1 <|
  s_iadd c86_818 <|
  s_script c86_819 rfl hx819 <|
  s_callv (args := [.int (X.2 j819)]) (r := [.int xs0]) c86_820 rfl rfl (Nat.le_of_ble_eq_true rfl) rfl ⟨rfl, by decide⟩ he kk
theorem b86_823 {x3 : Int32} {xs0 : Int32} {xs1 : Int32} (k1 : xs0 = xs1 → RUN X C 86 Q 828 [.retAddr 4, .ref 0, .ref 33, .int x3] [] (mk (zDm D) ct)) (k2 : ¬ xs0 = xs1 → RUN X C 86 Q 826 [.retAddr 4, .ref 0, .ref 33, .int x3] [] (mk (zDm D) ct)) : RUN X C 86 Q 823 [.retAddr 4, .ref 0, .ref 33, .int x3] [.int xs1, .int xs0] (mk (zDm D) ct) :=
  s_iceq c86_823 k1 k2
theorem b86_826 {x3 : Int32} (hq : Q (some (.int (nI 0))) (mk (zDm D) ct)) : RUN X C 86 Q 826 [.retAddr 4, .ref 0, .ref 33, .int x3] [] (mk (zDm D) ct) :=
  s_const c86_826 zcI_0 <|
  s_iret c86_827 (xrtZ rfl (Or.inl rfl)) hq
theorem b86_828 {x3 : Int32} (kk : RUN X C 86 Q 18 [.retAddr 4, .ref 0, .ref 33, .int (x3 + nI 4)] [] (mk (zDm D) ct)) : RUN X C 86 Q 828 [.retAddr 4, .ref 0, .ref 33, .int x3] [] (mk (zDm D) ct) :=
  s_iinc c86_828 rfl True.intro zcI_4 <|
  s_goto c86_831 <|
  kk
theorem b86_834 {x3 : Int32} (hq : Q (some (.int (nI 1))) (mk (zDm D) ct)) : RUN X C 86 Q 834 [.retAddr 4, .ref 0, .ref 33, .int x3] [] (mk (zDm D) ct) :=
  s_const c86_834 zcI_1 <|
  s_iret c86_835 (xrtZ rfl (Or.inr rfl)) hq
end
