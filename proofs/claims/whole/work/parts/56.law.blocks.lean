/-! Blocks of the reference's constructor and of the law: printed by wip/whole/runlaw.py. -/
theorem zcB_11 : (Int8.ofInt 11).toInt32 = nI 11 := by decide
theorem zcB_12 : (Int8.ofInt 12).toInt32 = nI 12 := by decide
theorem zcB_13 : (Int8.ofInt 13).toInt32 = nI 13 := by decide
theorem zcB_16 : (Int8.ofInt 16).toInt32 = nI 16 := by decide
theorem zcB_18 : (Int8.ofInt 18).toInt32 = nI 18 := by decide
theorem zcB_31 : (Int8.ofInt 31).toInt32 = nI 31 := by decide
theorem zcB_47 : (Int8.ofInt 47).toInt32 = nI 47 := by decide
theorem zcB_61 : (Int8.ofInt 61).toInt32 = nI 61 := by decide
theorem zcB_62 : (Int8.ofInt 62).toInt32 = nI 62 := by decide
section
variable {X : Nat × (Nat → Int32)} {C : Nat → List Value → xHp → Option Value → xHp → Prop} {Q : Option Value → xHp → Prop} {D : zD} {ct : zM}
-- ('PaintedTownModel', '<init>', '()V')
theorem b102_92 {D1 : zD} {ct1 : zM} (he : C 103 [.ref 33] (mk (zDm D) ct) none (mk D1 ct1)) (kk : RUN X C 102 Q 96 [.ref 33] [] (mk D1 ct1)) : RUN X C 102 Q 92 [.ref 33] [] (mk (zDm D) ct) :=
  s_aload_n c102_92 rfl <|
  s_callv (args := []) (r := []) c102_93 rfl rfl (Nat.le_of_ble_eq_true rfl) rfl ⟨rfl, by decide⟩ he kk
theorem b102_96 {D1 : zD} {ct1 : zM} (he : C 104 [.ref 33, .int (nI 3), .int (nI 4)] (mk (zDm D) (u2 (u2 ct 35 0 (nI 4)) 35 1 (nI 5))) none (mk D1 ct1)) (kk : RUN X C 102 Q 116 [.ref 33] [] (mk D1 ct1)) : RUN X C 102 Q 96 [.ref 33] [] (mk (zDm D) ct) :=
  s_aload_n c102_96 rfl <|
  s_getf (ct := ct) c102_97 rfl (by decide) rfl <|
  s_const c102_100 zcI_0 <|
  s_const c102_101 zcI_4 <|
  s_iast (ct := ct) c102_102 rfl (zix_nI (by decide) (by decide)) <|
  s_aload_n c102_103 rfl <|
  s_getf (ct := (u2 ct 35 0 (nI 4))) c102_104 rfl (by decide) rfl <|
  s_const c102_107 zcI_1 <|
  s_const c102_108 zcI_5 <|
  s_iast (ct := (u2 ct 35 0 (nI 4))) c102_109 rfl (zix_nI (by decide) (by decide)) <|
  s_aload_n c102_110 rfl <|
  s_const c102_111 zcI_3 <|
  s_const c102_112 zcI_4 <|
  s_callv (args := [.int (nI 3), .int (nI 4)]) (r := []) c102_113 rfl rfl (Nat.le_of_ble_eq_true rfl) rfl ⟨rfl, by decide⟩ he kk
theorem b102_116 {D1 : zD} {ct1 : zM} (he : C 104 [.ref 33, .int (nI 8), .int (nI 1)] (mk (zDm D) ct) none (mk D1 ct1)) (kk : RUN X C 102 Q 123 [.ref 33] [] (mk D1 ct1)) : RUN X C 102 Q 116 [.ref 33] [] (mk (zDm D) ct) :=
  s_aload_n c102_116 rfl <|
  s_bipush c102_117 zcB_8 <|
  s_const c102_119 zcI_1 <|
  s_callv (args := [.int (nI 8), .int (nI 1)]) (r := []) c102_120 rfl rfl (Nat.le_of_ble_eq_true rfl) rfl ⟨rfl, by decide⟩ he kk
theorem b102_123 {D1 : zD} {ct1 : zM} (he : C 104 [.ref 33, .int (nI 9), .int (nI 1)] (mk (zDm D) ct) none (mk D1 ct1)) (kk : RUN X C 102 Q 130 [.ref 33] [] (mk D1 ct1)) : RUN X C 102 Q 123 [.ref 33] [] (mk (zDm D) ct) :=
  s_aload_n c102_123 rfl <|
  s_bipush c102_124 zcB_9 <|
  s_const c102_126 zcI_1 <|
  s_callv (args := [.int (nI 9), .int (nI 1)]) (r := []) c102_127 rfl rfl (Nat.le_of_ble_eq_true rfl) rfl ⟨rfl, by decide⟩ he kk
theorem b102_130 {D1 : zD} {ct1 : zM} (he : C 104 [.ref 33, .int (nI 12), .int (nI 5)] (mk (zDm D) ct) none (mk D1 ct1)) (kk : RUN X C 102 Q 137 [.ref 33] [] (mk D1 ct1)) : RUN X C 102 Q 130 [.ref 33] [] (mk (zDm D) ct) :=
  s_aload_n c102_130 rfl <|
  s_bipush c102_131 zcB_12 <|
  s_const c102_133 zcI_5 <|
  s_callv (args := [.int (nI 12), .int (nI 5)]) (r := []) c102_134 rfl rfl (Nat.le_of_ble_eq_true rfl) rfl ⟨rfl, by decide⟩ he kk
theorem b102_137 {D1 : zD} {ct1 : zM} (he : C 104 [.ref 33, .int (nI 11), .int (nI 2)] (mk (zDm D) ct) none (mk D1 ct1)) (kk : RUN X C 102 Q 144 [.ref 33] [] (mk D1 ct1)) : RUN X C 102 Q 137 [.ref 33] [] (mk (zDm D) ct) :=
  s_aload_n c102_137 rfl <|
  s_bipush c102_138 zcB_11 <|
  s_const c102_140 zcI_2 <|
  s_callv (args := [.int (nI 11), .int (nI 2)]) (r := []) c102_141 rfl rfl (Nat.le_of_ble_eq_true rfl) rfl ⟨rfl, by decide⟩ he kk
theorem b102_144 {D1 : zD} {ct1 : zM} (he : C 104 [.ref 33, .int (nI 13), .int (nI 7)] (mk (zDm D) ct) none (mk D1 ct1)) (kk : RUN X C 102 Q 152 [.ref 33] [] (mk D1 ct1)) : RUN X C 102 Q 144 [.ref 33] [] (mk (zDm D) ct) :=
  s_aload_n c102_144 rfl <|
  s_bipush c102_145 zcB_13 <|
  s_bipush c102_147 zcB_7 <|
  s_callv (args := [.int (nI 13), .int (nI 7)]) (r := []) c102_149 rfl rfl (Nat.le_of_ble_eq_true rfl) rfl ⟨rfl, by decide⟩ he kk
theorem b102_152 {D1 : zD} {ct1 : zM} (he : C 104 [.ref 33, .int (nI 16), .int (nI 3)] (mk (zDm D) ct) none (mk D1 ct1)) (kk : RUN X C 102 Q 159 [.ref 33] [] (mk D1 ct1)) : RUN X C 102 Q 152 [.ref 33] [] (mk (zDm D) ct) :=
  s_aload_n c102_152 rfl <|
  s_bipush c102_153 zcB_16 <|
  s_const c102_155 zcI_3 <|
  s_callv (args := [.int (nI 16), .int (nI 3)]) (r := []) c102_156 rfl rfl (Nat.le_of_ble_eq_true rfl) rfl ⟨rfl, by decide⟩ he kk
theorem b102_159 {D1 : zD} {ct1 : zM} (he : C 104 [.ref 33, .int (nI 18), .int (nI 1)] (mk (zDm D) ct) none (mk D1 ct1)) (kk : RUN X C 102 Q 166 [.ref 33] [] (mk D1 ct1)) : RUN X C 102 Q 159 [.ref 33] [] (mk (zDm D) ct) :=
  s_aload_n c102_159 rfl <|
  s_bipush c102_160 zcB_18 <|
  s_const c102_162 zcI_1 <|
  s_callv (args := [.int (nI 18), .int (nI 1)]) (r := []) c102_163 rfl rfl (Nat.le_of_ble_eq_true rfl) rfl ⟨rfl, by decide⟩ he kk
theorem b102_166 {D1 : zD} {ct1 : zM} (he : C 105 [.ref 33] (mk (zDm D) (u2 (u2 (u2 (u2 (u2 (u2 (u2 (u2 (u2 (u2 (u2 ct 35 48 (nI 0)) 35 47 (nI 4)) 35 61 (nI 0)) 35 62 (nI 3)) 35 8 (nI 12)) 35 7 (nI 2)) 35 2 (nI 9)) 35 3 (nI 3)) 35 4 (nI 2)) 35 5 (nI 4)) 35 6 (nI 1))) none (mk D1 ct1)) (kk : RUN X C 102 Q 256 [.ref 33] [] (mk D1 ct1)) : RUN X C 102 Q 166 [.ref 33] [] (mk (zDm D) ct) :=
  s_aload_n c102_166 rfl <|
  s_getf (ct := ct) c102_167 rfl (by decide) rfl <|
  s_bipush c102_170 zcB_48 <|
  s_const c102_172 zcI_0 <|
  s_iast (ct := ct) c102_173 rfl (zix_nI (by decide) (by decide)) <|
  s_aload_n c102_174 rfl <|
  s_getf (ct := (u2 ct 35 48 (nI 0))) c102_175 rfl (by decide) rfl <|
  s_bipush c102_178 zcB_47 <|
  s_const c102_180 zcI_4 <|
  s_iast (ct := (u2 ct 35 48 (nI 0))) c102_181 rfl (zix_nI (by decide) (by decide)) <|
  s_aload_n c102_182 rfl <|
  s_getf (ct := (u2 (u2 ct 35 48 (nI 0)) 35 47 (nI 4))) c102_183 rfl (by decide) rfl <|
  s_bipush c102_186 zcB_61 <|
  s_const c102_188 zcI_0 <|
  s_iast (ct := (u2 (u2 ct 35 48 (nI 0)) 35 47 (nI 4))) c102_189 rfl (zix_nI (by decide) (by decide)) <|
  s_aload_n c102_190 rfl <|
  s_getf (ct := (u2 (u2 (u2 ct 35 48 (nI 0)) 35 47 (nI 4)) 35 61 (nI 0))) c102_191 rfl (by decide) rfl <|
  s_bipush c102_194 zcB_62 <|
  s_const c102_196 zcI_3 <|
  s_iast (ct := (u2 (u2 (u2 ct 35 48 (nI 0)) 35 47 (nI 4)) 35 61 (nI 0))) c102_197 rfl (zix_nI (by decide) (by decide)) <|
  s_aload_n c102_198 rfl <|
  s_getf (ct := (u2 (u2 (u2 (u2 ct 35 48 (nI 0)) 35 47 (nI 4)) 35 61 (nI 0)) 35 62 (nI 3))) c102_199 rfl (by decide) rfl <|
  s_bipush c102_202 zcB_8 <|
  s_bipush c102_204 zcB_12 <|
  s_iast (ct := (u2 (u2 (u2 (u2 ct 35 48 (nI 0)) 35 47 (nI 4)) 35 61 (nI 0)) 35 62 (nI 3))) c102_206 rfl (zix_nI (by decide) (by decide)) <|
  s_aload_n c102_207 rfl <|
  s_getf (ct := (u2 (u2 (u2 (u2 (u2 ct 35 48 (nI 0)) 35 47 (nI 4)) 35 61 (nI 0)) 35 62 (nI 3)) 35 8 (nI 12))) c102_208 rfl (by decide) rfl <|
  s_bipush c102_211 zcB_7 <|
  s_const c102_213 zcI_2 <|
  s_iast (ct := (u2 (u2 (u2 (u2 (u2 ct 35 48 (nI 0)) 35 47 (nI 4)) 35 61 (nI 0)) 35 62 (nI 3)) 35 8 (nI 12))) c102_214 rfl (zix_nI (by decide) (by decide)) <|
  s_aload_n c102_215 rfl <|
  s_getf (ct := (u2 (u2 (u2 (u2 (u2 (u2 ct 35 48 (nI 0)) 35 47 (nI 4)) 35 61 (nI 0)) 35 62 (nI 3)) 35 8 (nI 12)) 35 7 (nI 2))) c102_216 rfl (by decide) rfl <|
  s_const c102_219 zcI_2 <|
  s_bipush c102_220 zcB_9 <|
  s_iast (ct := (u2 (u2 (u2 (u2 (u2 (u2 ct 35 48 (nI 0)) 35 47 (nI 4)) 35 61 (nI 0)) 35 62 (nI 3)) 35 8 (nI 12)) 35 7 (nI 2))) c102_222 rfl (zix_nI (by decide) (by decide)) <|
  s_aload_n c102_223 rfl <|
  s_getf (ct := (u2 (u2 (u2 (u2 (u2 (u2 (u2 ct 35 48 (nI 0)) 35 47 (nI 4)) 35 61 (nI 0)) 35 62 (nI 3)) 35 8 (nI 12)) 35 7 (nI 2)) 35 2 (nI 9))) c102_224 rfl (by decide) rfl <|
  s_const c102_227 zcI_3 <|
  s_const c102_228 zcI_3 <|
  s_iast (ct := (u2 (u2 (u2 (u2 (u2 (u2 (u2 ct 35 48 (nI 0)) 35 47 (nI 4)) 35 61 (nI 0)) 35 62 (nI 3)) 35 8 (nI 12)) 35 7 (nI 2)) 35 2 (nI 9))) c102_229 rfl (zix_nI (by decide) (by decide)) <|
  s_aload_n c102_230 rfl <|
  s_getf (ct := (u2 (u2 (u2 (u2 (u2 (u2 (u2 (u2 ct 35 48 (nI 0)) 35 47 (nI 4)) 35 61 (nI 0)) 35 62 (nI 3)) 35 8 (nI 12)) 35 7 (nI 2)) 35 2 (nI 9)) 35 3 (nI 3))) c102_231 rfl (by decide) rfl <|
  s_const c102_234 zcI_4 <|
  s_const c102_235 zcI_2 <|
  s_iast (ct := (u2 (u2 (u2 (u2 (u2 (u2 (u2 (u2 ct 35 48 (nI 0)) 35 47 (nI 4)) 35 61 (nI 0)) 35 62 (nI 3)) 35 8 (nI 12)) 35 7 (nI 2)) 35 2 (nI 9)) 35 3 (nI 3))) c102_236 rfl (zix_nI (by decide) (by decide)) <|
  s_aload_n c102_237 rfl <|
  s_getf (ct := (u2 (u2 (u2 (u2 (u2 (u2 (u2 (u2 (u2 ct 35 48 (nI 0)) 35 47 (nI 4)) 35 61 (nI 0)) 35 62 (nI 3)) 35 8 (nI 12)) 35 7 (nI 2)) 35 2 (nI 9)) 35 3 (nI 3)) 35 4 (nI 2))) c102_238 rfl (by decide) rfl <|
  s_const c102_241 zcI_5 <|
  s_const c102_242 zcI_4 <|
  s_iast (ct := (u2 (u2 (u2 (u2 (u2 (u2 (u2 (u2 (u2 ct 35 48 (nI 0)) 35 47 (nI 4)) 35 61 (nI 0)) 35 62 (nI 3)) 35 8 (nI 12)) 35 7 (nI 2)) 35 2 (nI 9)) 35 3 (nI 3)) 35 4 (nI 2))) c102_243 rfl (zix_nI (by decide) (by decide)) <|
  s_aload_n c102_244 rfl <|
  s_getf (ct := (u2 (u2 (u2 (u2 (u2 (u2 (u2 (u2 (u2 (u2 ct 35 48 (nI 0)) 35 47 (nI 4)) 35 61 (nI 0)) 35 62 (nI 3)) 35 8 (nI 12)) 35 7 (nI 2)) 35 2 (nI 9)) 35 3 (nI 3)) 35 4 (nI 2)) 35 5 (nI 4))) c102_245 rfl (by decide) rfl <|
  s_bipush c102_248 zcB_6 <|
  s_const c102_250 zcI_1 <|
  s_iast (ct := (u2 (u2 (u2 (u2 (u2 (u2 (u2 (u2 (u2 (u2 ct 35 48 (nI 0)) 35 47 (nI 4)) 35 61 (nI 0)) 35 62 (nI 3)) 35 8 (nI 12)) 35 7 (nI 2)) 35 2 (nI 9)) 35 3 (nI 3)) 35 4 (nI 2)) 35 5 (nI 4))) c102_251 rfl (zix_nI (by decide) (by decide)) <|
  s_aload_n c102_252 rfl <|
  s_callv (args := []) (r := []) c102_253 rfl rfl (Nat.le_of_ble_eq_true rfl) rfl ⟨rfl, by decide⟩ he kk
theorem b102_256 (hq : Q none (mk (zDm D) ct)) : RUN X C 102 Q 256 [.ref 33] [] (mk (zDm D) ct) :=
  s_ret c102_256 rfl hq
-- ('PaintedTownLaw', 'law', '([I)Z')
theorem b171_16 {l3 : Value} (kk : RUN X C 171 Q 18 [.retAddr 4, .ref 0, .ref 33, .int (nI 0)] [] (mk (zDm D) ct)) : RUN X C 171 Q 16 [.retAddr 4, .ref 0, .ref 33, l3] [] (mk (zDm D) ct) :=
  s_const c171_16 zcI_0 <|
  s_istore_n c171_17 (Nat.le_of_ble_eq_true rfl) True.intro <|
  kk
theorem b171_18 {x3 : Int32} (k1 : ((nI X.1) - (nI 4)) < x3 → RUN X C 171 Q 834 [.retAddr 4, .ref 0, .ref 33, .int x3] [] (mk (zDm D) ct)) (k2 : ¬ ((nI X.1) - (nI 4)) < x3 → RUN X C 171 Q 26 [.retAddr 4, .ref 0, .ref 33, .int x3] [] (mk (zDm D) ct)) : RUN X C 171 Q 18 [.retAddr 4, .ref 0, .ref 33, .int x3] [] (mk (zDm D) ct) :=
  s_iload_n c171_18 rfl <|
  s_aloadr_n c171_19 rfl <|
  s_alen4 c171_20 <|
  s_const c171_21 zcI_4 <|
  s_isub c171_22 <|
  s_icgt c171_23 k1 k2
theorem b171_26 {x3 : Int32} {j28 : Nat} (hx28 : zix x3 j28 (X.1)) (kk : xsw [828, 168, 191, 204, 217, 230, 263, 286, 309, 342, 355, 378, 401, 424, 447, 460, 493, 506, 529, 552, 575, 608, 621, 644, 667, 690, 713, 736, 779, 792, 805] (((X.2 j28) &&& (nI 31)).toInt - 0) fun t => RUN X C 171 Q t [.retAddr 4, .ref 0, .ref 33, .int x3] [] (mk (zDm D) ct)) : RUN X C 171 Q 26 [.retAddr 4, .ref 0, .ref 33, .int x3] [] (mk (zDm D) ct) :=
  s_aloadr_n c171_26 rfl <|
  s_iload_n c171_27 rfl <|
  s_script c171_28 rfl hx28 <|
  s_bipush c171_29 zcB_31 <|
  s_iand c171_31 <|
  s_switch c171_32 kk
theorem b171_168 {x3 : Int32} {D1 : zD} {ct1 : zM} {v1 : Int32} {j173 : Nat} (hx173 : zix (x3 + (nI 1)) j173 (X.1)) (he : C 37 [.ref 0, .int (X.2 j173)] (mk (zDm D) ct) (some (.int v1)) (mk D1 ct1)) (kk : RUN X C 171 Q 177 [.retAddr 4, .ref 0, .ref 33, .int x3] [.int v1] (mk D1 ct1)) : RUN X C 171 Q 168 [.retAddr 4, .ref 0, .ref 33, .int x3] [] (mk (zDm D) ct) :=
  s_aload_n c171_168 rfl <|
  s_aloadr_n c171_169 rfl <|
  s_iload_n c171_170 rfl <|
  s_const c171_171 zcI_1 <|
  s_iadd c171_172 <|
  s_script c171_173 rfl hx173 <|
  s_callv (args := [.int (X.2 j173)]) (r := []) c171_174 rfl rfl (Nat.le_of_ble_eq_true rfl) rfl ⟨rfl, by decide⟩ he kk
theorem b171_177 {x3 : Int32} {xs0 : Int32} {D1 : zD} {ct1 : zM} {v1 : Int32} {j182 : Nat} (hx182 : zix (x3 + (nI 1)) j182 (X.1)) (he : C 107 [.ref 33, .int (X.2 j182)] (mk (zDm D) ct) (some (.int v1)) (mk D1 ct1)) (kk : RUN X C 171 Q 186 [.retAddr 4, .ref 0, .ref 33, .int x3] [.int v1, .int xs0] (mk D1 ct1)) : RUN X C 171 Q 177 [.retAddr 4, .ref 0, .ref 33, .int x3] [.int xs0] (mk (zDm D) ct) :=
  s_aload_n c171_177 rfl <|
  s_aloadr_n c171_178 rfl <|
  s_iload_n c171_179 rfl <|
  s_const c171_180 zcI_1 <|
  s_iadd c171_181 <|
  s_script c171_182 rfl hx182 <|
  s_callv (args := [.int (X.2 j182)]) (r := [.int xs0]) c171_183 rfl rfl (Nat.le_of_ble_eq_true rfl) rfl ⟨rfl, by decide⟩ he kk
theorem b171_186 {x3 : Int32} {xs0 : Int32} {xs1 : Int32} (k1 : xs0 = xs1 → RUN X C 171 Q 828 [.retAddr 4, .ref 0, .ref 33, .int x3] [] (mk (zDm D) ct)) (k2 : ¬ xs0 = xs1 → RUN X C 171 Q 189 [.retAddr 4, .ref 0, .ref 33, .int x3] [] (mk (zDm D) ct)) : RUN X C 171 Q 186 [.retAddr 4, .ref 0, .ref 33, .int x3] [.int xs1, .int xs0] (mk (zDm D) ct) :=
  s_iceq c171_186 k1 k2
theorem b171_189 {x3 : Int32} (hq : Q (some (.int (nI 0))) (mk (zDm D) ct)) : RUN X C 171 Q 189 [.retAddr 4, .ref 0, .ref 33, .int x3] [] (mk (zDm D) ct) :=
  s_const c171_189 zcI_0 <|
  s_iret c171_190 (xrtZ rfl (Or.inl rfl)) hq
theorem b171_191 {x3 : Int32} {D1 : zD} {ct1 : zM} {v1 : Int32} (he : C 38 [.ref 0] (mk (zDm D) ct) (some (.int v1)) (mk D1 ct1)) (kk : RUN X C 171 Q 195 [.retAddr 4, .ref 0, .ref 33, .int x3] [.int v1] (mk D1 ct1)) : RUN X C 171 Q 191 [.retAddr 4, .ref 0, .ref 33, .int x3] [] (mk (zDm D) ct) :=
  s_aload_n c171_191 rfl <|
  s_callv (args := []) (r := []) c171_192 rfl rfl (Nat.le_of_ble_eq_true rfl) rfl ⟨rfl, by decide⟩ he kk
theorem b171_195 {x3 : Int32} {xs0 : Int32} {D1 : zD} {ct1 : zM} {v1 : Int32} (he : C 109 [.ref 33] (mk (zDm D) ct) (some (.int v1)) (mk D1 ct1)) (kk : RUN X C 171 Q 199 [.retAddr 4, .ref 0, .ref 33, .int x3] [.int v1, .int xs0] (mk D1 ct1)) : RUN X C 171 Q 195 [.retAddr 4, .ref 0, .ref 33, .int x3] [.int xs0] (mk (zDm D) ct) :=
  s_aload_n c171_195 rfl <|
  s_callv (args := []) (r := [.int xs0]) c171_196 rfl rfl (Nat.le_of_ble_eq_true rfl) rfl ⟨rfl, by decide⟩ he kk
theorem b171_199 {x3 : Int32} {xs0 : Int32} {xs1 : Int32} (k1 : xs0 = xs1 → RUN X C 171 Q 828 [.retAddr 4, .ref 0, .ref 33, .int x3] [] (mk (zDm D) ct)) (k2 : ¬ xs0 = xs1 → RUN X C 171 Q 202 [.retAddr 4, .ref 0, .ref 33, .int x3] [] (mk (zDm D) ct)) : RUN X C 171 Q 199 [.retAddr 4, .ref 0, .ref 33, .int x3] [.int xs1, .int xs0] (mk (zDm D) ct) :=
  s_iceq c171_199 k1 k2
theorem b171_202 {x3 : Int32} (hq : Q (some (.int (nI 0))) (mk (zDm D) ct)) : RUN X C 171 Q 202 [.retAddr 4, .ref 0, .ref 33, .int x3] [] (mk (zDm D) ct) :=
  s_const c171_202 zcI_0 <|
  s_iret c171_203 (xrtZ rfl (Or.inl rfl)) hq
theorem b171_204 {x3 : Int32} {D1 : zD} {ct1 : zM} {v1 : Int32} (he : C 39 [.ref 0] (mk (zDm D) ct) (some (.int v1)) (mk D1 ct1)) (kk : RUN X C 171 Q 208 [.retAddr 4, .ref 0, .ref 33, .int x3] [.int v1] (mk D1 ct1)) : RUN X C 171 Q 204 [.retAddr 4, .ref 0, .ref 33, .int x3] [] (mk (zDm D) ct) :=
  s_aload_n c171_204 rfl <|
  s_callv (args := []) (r := []) c171_205 rfl rfl (Nat.le_of_ble_eq_true rfl) rfl ⟨rfl, by decide⟩ he kk
theorem b171_208 {x3 : Int32} {xs0 : Int32} {D1 : zD} {ct1 : zM} {v1 : Int32} (he : C 110 [.ref 33] (mk (zDm D) ct) (some (.int v1)) (mk D1 ct1)) (kk : RUN X C 171 Q 212 [.retAddr 4, .ref 0, .ref 33, .int x3] [.int v1, .int xs0] (mk D1 ct1)) : RUN X C 171 Q 208 [.retAddr 4, .ref 0, .ref 33, .int x3] [.int xs0] (mk (zDm D) ct) :=
  s_aload_n c171_208 rfl <|
  s_callv (args := []) (r := [.int xs0]) c171_209 rfl rfl (Nat.le_of_ble_eq_true rfl) rfl ⟨rfl, by decide⟩ he kk
theorem b171_212 {x3 : Int32} {xs0 : Int32} {xs1 : Int32} (k1 : xs0 = xs1 → RUN X C 171 Q 828 [.retAddr 4, .ref 0, .ref 33, .int x3] [] (mk (zDm D) ct)) (k2 : ¬ xs0 = xs1 → RUN X C 171 Q 215 [.retAddr 4, .ref 0, .ref 33, .int x3] [] (mk (zDm D) ct)) : RUN X C 171 Q 212 [.retAddr 4, .ref 0, .ref 33, .int x3] [.int xs1, .int xs0] (mk (zDm D) ct) :=
  s_iceq c171_212 k1 k2
theorem b171_215 {x3 : Int32} (hq : Q (some (.int (nI 0))) (mk (zDm D) ct)) : RUN X C 171 Q 215 [.retAddr 4, .ref 0, .ref 33, .int x3] [] (mk (zDm D) ct) :=
  s_const c171_215 zcI_0 <|
  s_iret c171_216 (xrtZ rfl (Or.inl rfl)) hq
theorem b171_217 {x3 : Int32} {D1 : zD} {ct1 : zM} {v1 : Int32} (he : C 40 [.ref 0] (mk (zDm D) ct) (some (.int v1)) (mk D1 ct1)) (kk : RUN X C 171 Q 221 [.retAddr 4, .ref 0, .ref 33, .int x3] [.int v1] (mk D1 ct1)) : RUN X C 171 Q 217 [.retAddr 4, .ref 0, .ref 33, .int x3] [] (mk (zDm D) ct) :=
  s_aload_n c171_217 rfl <|
  s_callv (args := []) (r := []) c171_218 rfl rfl (Nat.le_of_ble_eq_true rfl) rfl ⟨rfl, by decide⟩ he kk
theorem b171_221 {x3 : Int32} {xs0 : Int32} {D1 : zD} {ct1 : zM} {v1 : Int32} (he : C 121 [.ref 33] (mk (zDm D) ct) (some (.int v1)) (mk D1 ct1)) (kk : RUN X C 171 Q 225 [.retAddr 4, .ref 0, .ref 33, .int x3] [.int v1, .int xs0] (mk D1 ct1)) : RUN X C 171 Q 221 [.retAddr 4, .ref 0, .ref 33, .int x3] [.int xs0] (mk (zDm D) ct) :=
  s_aload_n c171_221 rfl <|
  s_callv (args := []) (r := [.int xs0]) c171_222 rfl rfl (Nat.le_of_ble_eq_true rfl) rfl ⟨rfl, by decide⟩ he kk
theorem b171_225 {x3 : Int32} {xs0 : Int32} {xs1 : Int32} (k1 : xs0 = xs1 → RUN X C 171 Q 828 [.retAddr 4, .ref 0, .ref 33, .int x3] [] (mk (zDm D) ct)) (k2 : ¬ xs0 = xs1 → RUN X C 171 Q 228 [.retAddr 4, .ref 0, .ref 33, .int x3] [] (mk (zDm D) ct)) : RUN X C 171 Q 225 [.retAddr 4, .ref 0, .ref 33, .int x3] [.int xs1, .int xs0] (mk (zDm D) ct) :=
  s_iceq c171_225 k1 k2
theorem b171_228 {x3 : Int32} (hq : Q (some (.int (nI 0))) (mk (zDm D) ct)) : RUN X C 171 Q 228 [.retAddr 4, .ref 0, .ref 33, .int x3] [] (mk (zDm D) ct) :=
  s_const c171_228 zcI_0 <|
  s_iret c171_229 (xrtZ rfl (Or.inl rfl)) hq
theorem b171_230 {x3 : Int32} {D1 : zD} {ct1 : zM} {v1 : Int32} {j235 : Nat} (hx235 : zix (x3 + (nI 1)) j235 (X.1)) {j240 : Nat} (hx240 : zix (x3 + (nI 2)) j240 (X.1)) (he : C 41 [.ref 0, .int (X.2 j235), .int (X.2 j240)] (mk (zDm D) ct) (some (.int v1)) (mk D1 ct1)) (kk : RUN X C 171 Q 244 [.retAddr 4, .ref 0, .ref 33, .int x3] [.int v1] (mk D1 ct1)) : RUN X C 171 Q 230 [.retAddr 4, .ref 0, .ref 33, .int x3] [] (mk (zDm D) ct) :=
  s_aload_n c171_230 rfl <|
  s_aloadr_n c171_231 rfl <|
  s_iload_n c171_232 rfl <|
  s_const c171_233 zcI_1 <|
  s_iadd c171_234 <|
  s_script c171_235 rfl hx235 <|
  s_aloadr_n c171_236 rfl <|
  s_iload_n c171_237 rfl <|
  s_const c171_238 zcI_2 <|
  s_iadd c171_239 <|
  s_script c171_240 rfl hx240 <|
  s_callv (args := [.int (X.2 j235), .int (X.2 j240)]) (r := []) c171_241 rfl rfl (Nat.le_of_ble_eq_true rfl) rfl ⟨rfl, by decide⟩ he kk
theorem b171_244 {x3 : Int32} {xs0 : Int32} {D1 : zD} {ct1 : zM} {v1 : Int32} {j249 : Nat} (hx249 : zix (x3 + (nI 1)) j249 (X.1)) {j254 : Nat} (hx254 : zix (x3 + (nI 2)) j254 (X.1)) (he : C 123 [.ref 33, .int (X.2 j249), .int (X.2 j254)] (mk (zDm D) ct) (some (.int v1)) (mk D1 ct1)) (kk : RUN X C 171 Q 258 [.retAddr 4, .ref 0, .ref 33, .int x3] [.int v1, .int xs0] (mk D1 ct1)) : RUN X C 171 Q 244 [.retAddr 4, .ref 0, .ref 33, .int x3] [.int xs0] (mk (zDm D) ct) :=
  s_aload_n c171_244 rfl <|
  s_aloadr_n c171_245 rfl <|
  s_iload_n c171_246 rfl <|
  s_const c171_247 zcI_1 <|
  s_iadd c171_248 <|
  s_script c171_249 rfl hx249 <|
  s_aloadr_n c171_250 rfl <|
  s_iload_n c171_251 rfl <|
  s_const c171_252 zcI_2 <|
  s_iadd c171_253 <|
  s_script c171_254 rfl hx254 <|
  s_callv (args := [.int (X.2 j249), .int (X.2 j254)]) (r := [.int xs0]) c171_255 rfl rfl (Nat.le_of_ble_eq_true rfl) rfl ⟨rfl, by decide⟩ he kk
theorem b171_258 {x3 : Int32} {xs0 : Int32} {xs1 : Int32} (k1 : xs0 = xs1 → RUN X C 171 Q 828 [.retAddr 4, .ref 0, .ref 33, .int x3] [] (mk (zDm D) ct)) (k2 : ¬ xs0 = xs1 → RUN X C 171 Q 261 [.retAddr 4, .ref 0, .ref 33, .int x3] [] (mk (zDm D) ct)) : RUN X C 171 Q 258 [.retAddr 4, .ref 0, .ref 33, .int x3] [.int xs1, .int xs0] (mk (zDm D) ct) :=
  s_iceq c171_258 k1 k2
theorem b171_261 {x3 : Int32} (hq : Q (some (.int (nI 0))) (mk (zDm D) ct)) : RUN X C 171 Q 261 [.retAddr 4, .ref 0, .ref 33, .int x3] [] (mk (zDm D) ct) :=
  s_const c171_261 zcI_0 <|
  s_iret c171_262 (xrtZ rfl (Or.inl rfl)) hq
theorem b171_263 {x3 : Int32} {D1 : zD} {ct1 : zM} {v1 : Int32} {j268 : Nat} (hx268 : zix (x3 + (nI 1)) j268 (X.1)) (he : C 50 [.ref 0, .int (X.2 j268)] (mk (zDm D) ct) (some (.int v1)) (mk D1 ct1)) (kk : RUN X C 171 Q 272 [.retAddr 4, .ref 0, .ref 33, .int x3] [.int v1] (mk D1 ct1)) : RUN X C 171 Q 263 [.retAddr 4, .ref 0, .ref 33, .int x3] [] (mk (zDm D) ct) :=
  s_aload_n c171_263 rfl <|
  s_aloadr_n c171_264 rfl <|
  s_iload_n c171_265 rfl <|
  s_const c171_266 zcI_1 <|
  s_iadd c171_267 <|
  s_script c171_268 rfl hx268 <|
  s_callv (args := [.int (X.2 j268)]) (r := []) c171_269 rfl rfl (Nat.le_of_ble_eq_true rfl) rfl ⟨rfl, by decide⟩ he kk
theorem b171_272 {x3 : Int32} {xs0 : Int32} {D1 : zD} {ct1 : zM} {v1 : Int32} {j277 : Nat} (hx277 : zix (x3 + (nI 1)) j277 (X.1)) (he : C 132 [.ref 33, .int (X.2 j277)] (mk (zDm D) ct) (some (.int v1)) (mk D1 ct1)) (kk : RUN X C 171 Q 281 [.retAddr 4, .ref 0, .ref 33, .int x3] [.int v1, .int xs0] (mk D1 ct1)) : RUN X C 171 Q 272 [.retAddr 4, .ref 0, .ref 33, .int x3] [.int xs0] (mk (zDm D) ct) :=
  s_aload_n c171_272 rfl <|
  s_aloadr_n c171_273 rfl <|
  s_iload_n c171_274 rfl <|
  s_const c171_275 zcI_1 <|
  s_iadd c171_276 <|
  s_script c171_277 rfl hx277 <|
  s_callv (args := [.int (X.2 j277)]) (r := [.int xs0]) c171_278 rfl rfl (Nat.le_of_ble_eq_true rfl) rfl ⟨rfl, by decide⟩ he kk
theorem b171_281 {x3 : Int32} {xs0 : Int32} {xs1 : Int32} (k1 : xs0 = xs1 → RUN X C 171 Q 828 [.retAddr 4, .ref 0, .ref 33, .int x3] [] (mk (zDm D) ct)) (k2 : ¬ xs0 = xs1 → RUN X C 171 Q 284 [.retAddr 4, .ref 0, .ref 33, .int x3] [] (mk (zDm D) ct)) : RUN X C 171 Q 281 [.retAddr 4, .ref 0, .ref 33, .int x3] [.int xs1, .int xs0] (mk (zDm D) ct) :=
  s_iceq c171_281 k1 k2
theorem b171_284 {x3 : Int32} (hq : Q (some (.int (nI 0))) (mk (zDm D) ct)) : RUN X C 171 Q 284 [.retAddr 4, .ref 0, .ref 33, .int x3] [] (mk (zDm D) ct) :=
  s_const c171_284 zcI_0 <|
  s_iret c171_285 (xrtZ rfl (Or.inl rfl)) hq
theorem b171_286 {x3 : Int32} {D1 : zD} {ct1 : zM} {v1 : Int32} {j291 : Nat} (hx291 : zix (x3 + (nI 1)) j291 (X.1)) (he : C 56 [.ref 0, .int (X.2 j291)] (mk (zDm D) ct) (some (.int v1)) (mk D1 ct1)) (kk : RUN X C 171 Q 295 [.retAddr 4, .ref 0, .ref 33, .int x3] [.int v1] (mk D1 ct1)) : RUN X C 171 Q 286 [.retAddr 4, .ref 0, .ref 33, .int x3] [] (mk (zDm D) ct) :=
  s_aload_n c171_286 rfl <|
  s_aloadr_n c171_287 rfl <|
  s_iload_n c171_288 rfl <|
  s_const c171_289 zcI_1 <|
  s_iadd c171_290 <|
  s_script c171_291 rfl hx291 <|
  s_callv (args := [.int (X.2 j291)]) (r := []) c171_292 rfl rfl (Nat.le_of_ble_eq_true rfl) rfl ⟨rfl, by decide⟩ he kk
theorem b171_295 {x3 : Int32} {xs0 : Int32} {D1 : zD} {ct1 : zM} {v1 : Int32} {j300 : Nat} (hx300 : zix (x3 + (nI 1)) j300 (X.1)) (he : C 136 [.ref 33, .int (X.2 j300)] (mk (zDm D) ct) (some (.int v1)) (mk D1 ct1)) (kk : RUN X C 171 Q 304 [.retAddr 4, .ref 0, .ref 33, .int x3] [.int v1, .int xs0] (mk D1 ct1)) : RUN X C 171 Q 295 [.retAddr 4, .ref 0, .ref 33, .int x3] [.int xs0] (mk (zDm D) ct) :=
  s_aload_n c171_295 rfl <|
  s_aloadr_n c171_296 rfl <|
  s_iload_n c171_297 rfl <|
  s_const c171_298 zcI_1 <|
  s_iadd c171_299 <|
  s_script c171_300 rfl hx300 <|
  s_callv (args := [.int (X.2 j300)]) (r := [.int xs0]) c171_301 rfl rfl (Nat.le_of_ble_eq_true rfl) rfl ⟨rfl, by decide⟩ he kk
theorem b171_304 {x3 : Int32} {xs0 : Int32} {xs1 : Int32} (k1 : xs0 = xs1 → RUN X C 171 Q 828 [.retAddr 4, .ref 0, .ref 33, .int x3] [] (mk (zDm D) ct)) (k2 : ¬ xs0 = xs1 → RUN X C 171 Q 307 [.retAddr 4, .ref 0, .ref 33, .int x3] [] (mk (zDm D) ct)) : RUN X C 171 Q 304 [.retAddr 4, .ref 0, .ref 33, .int x3] [.int xs1, .int xs0] (mk (zDm D) ct) :=
  s_iceq c171_304 k1 k2
theorem b171_307 {x3 : Int32} (hq : Q (some (.int (nI 0))) (mk (zDm D) ct)) : RUN X C 171 Q 307 [.retAddr 4, .ref 0, .ref 33, .int x3] [] (mk (zDm D) ct) :=
  s_const c171_307 zcI_0 <|
  s_iret c171_308 (xrtZ rfl (Or.inl rfl)) hq
theorem b171_309 {x3 : Int32} {D1 : zD} {ct1 : zM} {v1 : Int32} {j314 : Nat} (hx314 : zix (x3 + (nI 1)) j314 (X.1)) {j319 : Nat} (hx319 : zix (x3 + (nI 2)) j319 (X.1)) (he : C 58 [.ref 0, .int (X.2 j314), .int (X.2 j319)] (mk (zDm D) ct) (some (.int v1)) (mk D1 ct1)) (kk : RUN X C 171 Q 323 [.retAddr 4, .ref 0, .ref 33, .int x3] [.int v1] (mk D1 ct1)) : RUN X C 171 Q 309 [.retAddr 4, .ref 0, .ref 33, .int x3] [] (mk (zDm D) ct) :=
  s_aload_n c171_309 rfl <|
  s_aloadr_n c171_310 rfl <|
  s_iload_n c171_311 rfl <|
  s_const c171_312 zcI_1 <|
  s_iadd c171_313 <|
  s_script c171_314 rfl hx314 <|
  s_aloadr_n c171_315 rfl <|
  s_iload_n c171_316 rfl <|
  s_const c171_317 zcI_2 <|
  s_iadd c171_318 <|
  s_script c171_319 rfl hx319 <|
  s_callv (args := [.int (X.2 j314), .int (X.2 j319)]) (r := []) c171_320 rfl rfl (Nat.le_of_ble_eq_true rfl) rfl ⟨rfl, by decide⟩ he kk
theorem b171_323 {x3 : Int32} {xs0 : Int32} {D1 : zD} {ct1 : zM} {v1 : Int32} {j328 : Nat} (hx328 : zix (x3 + (nI 1)) j328 (X.1)) {j333 : Nat} (hx333 : zix (x3 + (nI 2)) j333 (X.1)) (he : C 139 [.ref 33, .int (X.2 j328), .int (X.2 j333)] (mk (zDm D) ct) (some (.int v1)) (mk D1 ct1)) (kk : RUN X C 171 Q 337 [.retAddr 4, .ref 0, .ref 33, .int x3] [.int v1, .int xs0] (mk D1 ct1)) : RUN X C 171 Q 323 [.retAddr 4, .ref 0, .ref 33, .int x3] [.int xs0] (mk (zDm D) ct) :=
  s_aload_n c171_323 rfl <|
  s_aloadr_n c171_324 rfl <|
  s_iload_n c171_325 rfl <|
  s_const c171_326 zcI_1 <|
  s_iadd c171_327 <|
  s_script c171_328 rfl hx328 <|
  s_aloadr_n c171_329 rfl <|
  s_iload_n c171_330 rfl <|
  s_const c171_331 zcI_2 <|
  s_iadd c171_332 <|
  s_script c171_333 rfl hx333 <|
  s_callv (args := [.int (X.2 j328), .int (X.2 j333)]) (r := [.int xs0]) c171_334 rfl rfl (Nat.le_of_ble_eq_true rfl) rfl ⟨rfl, by decide⟩ he kk
theorem b171_337 {x3 : Int32} {xs0 : Int32} {xs1 : Int32} (k1 : xs0 = xs1 → RUN X C 171 Q 828 [.retAddr 4, .ref 0, .ref 33, .int x3] [] (mk (zDm D) ct)) (k2 : ¬ xs0 = xs1 → RUN X C 171 Q 340 [.retAddr 4, .ref 0, .ref 33, .int x3] [] (mk (zDm D) ct)) : RUN X C 171 Q 337 [.retAddr 4, .ref 0, .ref 33, .int x3] [.int xs1, .int xs0] (mk (zDm D) ct) :=
  s_iceq c171_337 k1 k2
theorem b171_340 {x3 : Int32} (hq : Q (some (.int (nI 0))) (mk (zDm D) ct)) : RUN X C 171 Q 340 [.retAddr 4, .ref 0, .ref 33, .int x3] [] (mk (zDm D) ct) :=
  s_const c171_340 zcI_0 <|
  s_iret c171_341 (xrtZ rfl (Or.inl rfl)) hq
theorem b171_342 {x3 : Int32} {D1 : zD} {ct1 : zM} {v1 : Int32} (he : C 59 [.ref 0] (mk (zDm D) ct) (some (.int v1)) (mk D1 ct1)) (kk : RUN X C 171 Q 346 [.retAddr 4, .ref 0, .ref 33, .int x3] [.int v1] (mk D1 ct1)) : RUN X C 171 Q 342 [.retAddr 4, .ref 0, .ref 33, .int x3] [] (mk (zDm D) ct) :=
  s_aload_n c171_342 rfl <|
  s_callv (args := []) (r := []) c171_343 rfl rfl (Nat.le_of_ble_eq_true rfl) rfl ⟨rfl, by decide⟩ he kk
theorem b171_346 {x3 : Int32} {xs0 : Int32} {D1 : zD} {ct1 : zM} {v1 : Int32} (he : C 140 [.ref 33] (mk (zDm D) ct) (some (.int v1)) (mk D1 ct1)) (kk : RUN X C 171 Q 350 [.retAddr 4, .ref 0, .ref 33, .int x3] [.int v1, .int xs0] (mk D1 ct1)) : RUN X C 171 Q 346 [.retAddr 4, .ref 0, .ref 33, .int x3] [.int xs0] (mk (zDm D) ct) :=
  s_aload_n c171_346 rfl <|
  s_callv (args := []) (r := [.int xs0]) c171_347 rfl rfl (Nat.le_of_ble_eq_true rfl) rfl ⟨rfl, by decide⟩ he kk
theorem b171_350 {x3 : Int32} {xs0 : Int32} {xs1 : Int32} (k1 : xs0 = xs1 → RUN X C 171 Q 828 [.retAddr 4, .ref 0, .ref 33, .int x3] [] (mk (zDm D) ct)) (k2 : ¬ xs0 = xs1 → RUN X C 171 Q 353 [.retAddr 4, .ref 0, .ref 33, .int x3] [] (mk (zDm D) ct)) : RUN X C 171 Q 350 [.retAddr 4, .ref 0, .ref 33, .int x3] [.int xs1, .int xs0] (mk (zDm D) ct) :=
  s_iceq c171_350 k1 k2
theorem b171_353 {x3 : Int32} (hq : Q (some (.int (nI 0))) (mk (zDm D) ct)) : RUN X C 171 Q 353 [.retAddr 4, .ref 0, .ref 33, .int x3] [] (mk (zDm D) ct) :=
  s_const c171_353 zcI_0 <|
  s_iret c171_354 (xrtZ rfl (Or.inl rfl)) hq
theorem b171_355 {x3 : Int32} {D1 : zD} {ct1 : zM} {v1 : Int32} {j360 : Nat} (hx360 : zix (x3 + (nI 1)) j360 (X.1)) (he : C 61 [.ref 0, .int (X.2 j360)] (mk (zDm D) ct) (some (.int v1)) (mk D1 ct1)) (kk : RUN X C 171 Q 364 [.retAddr 4, .ref 0, .ref 33, .int x3] [.int v1] (mk D1 ct1)) : RUN X C 171 Q 355 [.retAddr 4, .ref 0, .ref 33, .int x3] [] (mk (zDm D) ct) :=
  s_aload_n c171_355 rfl <|
  s_aloadr_n c171_356 rfl <|
  s_iload_n c171_357 rfl <|
  s_const c171_358 zcI_1 <|
  s_iadd c171_359 <|
  s_script c171_360 rfl hx360 <|
  s_callv (args := [.int (X.2 j360)]) (r := []) c171_361 rfl rfl (Nat.le_of_ble_eq_true rfl) rfl ⟨rfl, by decide⟩ he kk
theorem b171_364 {x3 : Int32} {xs0 : Int32} {D1 : zD} {ct1 : zM} {v1 : Int32} {j369 : Nat} (hx369 : zix (x3 + (nI 1)) j369 (X.1)) (he : C 141 [.ref 33, .int (X.2 j369)] (mk (zDm D) ct) (some (.int v1)) (mk D1 ct1)) (kk : RUN X C 171 Q 373 [.retAddr 4, .ref 0, .ref 33, .int x3] [.int v1, .int xs0] (mk D1 ct1)) : RUN X C 171 Q 364 [.retAddr 4, .ref 0, .ref 33, .int x3] [.int xs0] (mk (zDm D) ct) :=
  s_aload_n c171_364 rfl <|
  s_aloadr_n c171_365 rfl <|
  s_iload_n c171_366 rfl <|
  s_const c171_367 zcI_1 <|
  s_iadd c171_368 <|
  s_script c171_369 rfl hx369 <|
  s_callv (args := [.int (X.2 j369)]) (r := [.int xs0]) c171_370 rfl rfl (Nat.le_of_ble_eq_true rfl) rfl ⟨rfl, by decide⟩ he kk
theorem b171_373 {x3 : Int32} {xs0 : Int32} {xs1 : Int32} (k1 : xs0 = xs1 → RUN X C 171 Q 828 [.retAddr 4, .ref 0, .ref 33, .int x3] [] (mk (zDm D) ct)) (k2 : ¬ xs0 = xs1 → RUN X C 171 Q 376 [.retAddr 4, .ref 0, .ref 33, .int x3] [] (mk (zDm D) ct)) : RUN X C 171 Q 373 [.retAddr 4, .ref 0, .ref 33, .int x3] [.int xs1, .int xs0] (mk (zDm D) ct) :=
  s_iceq c171_373 k1 k2
theorem b171_376 {x3 : Int32} (hq : Q (some (.int (nI 0))) (mk (zDm D) ct)) : RUN X C 171 Q 376 [.retAddr 4, .ref 0, .ref 33, .int x3] [] (mk (zDm D) ct) :=
  s_const c171_376 zcI_0 <|
  s_iret c171_377 (xrtZ rfl (Or.inl rfl)) hq
theorem b171_378 {x3 : Int32} {D1 : zD} {ct1 : zM} {v1 : Int32} {j383 : Nat} (hx383 : zix (x3 + (nI 1)) j383 (X.1)) (he : C 62 [.ref 0, .int (X.2 j383)] (mk (zDm D) ct) (some (.int v1)) (mk D1 ct1)) (kk : RUN X C 171 Q 387 [.retAddr 4, .ref 0, .ref 33, .int x3] [.int v1] (mk D1 ct1)) : RUN X C 171 Q 378 [.retAddr 4, .ref 0, .ref 33, .int x3] [] (mk (zDm D) ct) :=
  s_aload_n c171_378 rfl <|
  s_aloadr_n c171_379 rfl <|
  s_iload_n c171_380 rfl <|
  s_const c171_381 zcI_1 <|
  s_iadd c171_382 <|
  s_script c171_383 rfl hx383 <|
  s_callv (args := [.int (X.2 j383)]) (r := []) c171_384 rfl rfl (Nat.le_of_ble_eq_true rfl) rfl ⟨rfl, by decide⟩ he kk
theorem b171_387 {x3 : Int32} {xs0 : Int32} {D1 : zD} {ct1 : zM} {v1 : Int32} {j392 : Nat} (hx392 : zix (x3 + (nI 1)) j392 (X.1)) (he : C 142 [.ref 33, .int (X.2 j392)] (mk (zDm D) ct) (some (.int v1)) (mk D1 ct1)) (kk : RUN X C 171 Q 396 [.retAddr 4, .ref 0, .ref 33, .int x3] [.int v1, .int xs0] (mk D1 ct1)) : RUN X C 171 Q 387 [.retAddr 4, .ref 0, .ref 33, .int x3] [.int xs0] (mk (zDm D) ct) :=
  s_aload_n c171_387 rfl <|
  s_aloadr_n c171_388 rfl <|
  s_iload_n c171_389 rfl <|
  s_const c171_390 zcI_1 <|
  s_iadd c171_391 <|
  s_script c171_392 rfl hx392 <|
  s_callv (args := [.int (X.2 j392)]) (r := [.int xs0]) c171_393 rfl rfl (Nat.le_of_ble_eq_true rfl) rfl ⟨rfl, by decide⟩ he kk
theorem b171_396 {x3 : Int32} {xs0 : Int32} {xs1 : Int32} (k1 : xs0 = xs1 → RUN X C 171 Q 828 [.retAddr 4, .ref 0, .ref 33, .int x3] [] (mk (zDm D) ct)) (k2 : ¬ xs0 = xs1 → RUN X C 171 Q 399 [.retAddr 4, .ref 0, .ref 33, .int x3] [] (mk (zDm D) ct)) : RUN X C 171 Q 396 [.retAddr 4, .ref 0, .ref 33, .int x3] [.int xs1, .int xs0] (mk (zDm D) ct) :=
  s_iceq c171_396 k1 k2
theorem b171_399 {x3 : Int32} (hq : Q (some (.int (nI 0))) (mk (zDm D) ct)) : RUN X C 171 Q 399 [.retAddr 4, .ref 0, .ref 33, .int x3] [] (mk (zDm D) ct) :=
  s_const c171_399 zcI_0 <|
  s_iret c171_400 (xrtZ rfl (Or.inl rfl)) hq
theorem b171_401 {x3 : Int32} {D1 : zD} {ct1 : zM} {v1 : Int32} {j406 : Nat} (hx406 : zix (x3 + (nI 1)) j406 (X.1)) (he : C 63 [.ref 0, .int (X.2 j406)] (mk (zDm D) ct) (some (.int v1)) (mk D1 ct1)) (kk : RUN X C 171 Q 410 [.retAddr 4, .ref 0, .ref 33, .int x3] [.int v1] (mk D1 ct1)) : RUN X C 171 Q 401 [.retAddr 4, .ref 0, .ref 33, .int x3] [] (mk (zDm D) ct) :=
  s_aload_n c171_401 rfl <|
  s_aloadr_n c171_402 rfl <|
  s_iload_n c171_403 rfl <|
  s_const c171_404 zcI_1 <|
  s_iadd c171_405 <|
  s_script c171_406 rfl hx406 <|
  s_callv (args := [.int (X.2 j406)]) (r := []) c171_407 rfl rfl (Nat.le_of_ble_eq_true rfl) rfl ⟨rfl, by decide⟩ he kk
theorem b171_410 {x3 : Int32} {xs0 : Int32} {D1 : zD} {ct1 : zM} {v1 : Int32} {j415 : Nat} (hx415 : zix (x3 + (nI 1)) j415 (X.1)) (he : C 143 [.ref 33, .int (X.2 j415)] (mk (zDm D) ct) (some (.int v1)) (mk D1 ct1)) (kk : RUN X C 171 Q 419 [.retAddr 4, .ref 0, .ref 33, .int x3] [.int v1, .int xs0] (mk D1 ct1)) : RUN X C 171 Q 410 [.retAddr 4, .ref 0, .ref 33, .int x3] [.int xs0] (mk (zDm D) ct) :=
  s_aload_n c171_410 rfl <|
  s_aloadr_n c171_411 rfl <|
  s_iload_n c171_412 rfl <|
  s_const c171_413 zcI_1 <|
  s_iadd c171_414 <|
  s_script c171_415 rfl hx415 <|
  s_callv (args := [.int (X.2 j415)]) (r := [.int xs0]) c171_416 rfl rfl (Nat.le_of_ble_eq_true rfl) rfl ⟨rfl, by decide⟩ he kk
theorem b171_419 {x3 : Int32} {xs0 : Int32} {xs1 : Int32} (k1 : xs0 = xs1 → RUN X C 171 Q 828 [.retAddr 4, .ref 0, .ref 33, .int x3] [] (mk (zDm D) ct)) (k2 : ¬ xs0 = xs1 → RUN X C 171 Q 422 [.retAddr 4, .ref 0, .ref 33, .int x3] [] (mk (zDm D) ct)) : RUN X C 171 Q 419 [.retAddr 4, .ref 0, .ref 33, .int x3] [.int xs1, .int xs0] (mk (zDm D) ct) :=
  s_iceq c171_419 k1 k2
theorem b171_422 {x3 : Int32} (hq : Q (some (.int (nI 0))) (mk (zDm D) ct)) : RUN X C 171 Q 422 [.retAddr 4, .ref 0, .ref 33, .int x3] [] (mk (zDm D) ct) :=
  s_const c171_422 zcI_0 <|
  s_iret c171_423 (xrtZ rfl (Or.inl rfl)) hq
theorem b171_424 {x3 : Int32} {D1 : zD} {ct1 : zM} {v1 : Int32} {j429 : Nat} (hx429 : zix (x3 + (nI 1)) j429 (X.1)) (he : C 64 [.ref 0, .int (X.2 j429)] (mk (zDm D) ct) (some (.int v1)) (mk D1 ct1)) (kk : RUN X C 171 Q 433 [.retAddr 4, .ref 0, .ref 33, .int x3] [.int v1] (mk D1 ct1)) : RUN X C 171 Q 424 [.retAddr 4, .ref 0, .ref 33, .int x3] [] (mk (zDm D) ct) :=
  s_aload_n c171_424 rfl <|
  s_aloadr_n c171_425 rfl <|
  s_iload_n c171_426 rfl <|
  s_const c171_427 zcI_1 <|
  s_iadd c171_428 <|
  s_script c171_429 rfl hx429 <|
  s_callv (args := [.int (X.2 j429)]) (r := []) c171_430 rfl rfl (Nat.le_of_ble_eq_true rfl) rfl ⟨rfl, by decide⟩ he kk
theorem b171_433 {x3 : Int32} {xs0 : Int32} {D1 : zD} {ct1 : zM} {v1 : Int32} {j438 : Nat} (hx438 : zix (x3 + (nI 1)) j438 (X.1)) (he : C 144 [.ref 33, .int (X.2 j438)] (mk (zDm D) ct) (some (.int v1)) (mk D1 ct1)) (kk : RUN X C 171 Q 442 [.retAddr 4, .ref 0, .ref 33, .int x3] [.int v1, .int xs0] (mk D1 ct1)) : RUN X C 171 Q 433 [.retAddr 4, .ref 0, .ref 33, .int x3] [.int xs0] (mk (zDm D) ct) :=
  s_aload_n c171_433 rfl <|
  s_aloadr_n c171_434 rfl <|
  s_iload_n c171_435 rfl <|
  s_const c171_436 zcI_1 <|
  s_iadd c171_437 <|
  s_script c171_438 rfl hx438 <|
  s_callv (args := [.int (X.2 j438)]) (r := [.int xs0]) c171_439 rfl rfl (Nat.le_of_ble_eq_true rfl) rfl ⟨rfl, by decide⟩ he kk
theorem b171_442 {x3 : Int32} {xs0 : Int32} {xs1 : Int32} (k1 : xs0 = xs1 → RUN X C 171 Q 828 [.retAddr 4, .ref 0, .ref 33, .int x3] [] (mk (zDm D) ct)) (k2 : ¬ xs0 = xs1 → RUN X C 171 Q 445 [.retAddr 4, .ref 0, .ref 33, .int x3] [] (mk (zDm D) ct)) : RUN X C 171 Q 442 [.retAddr 4, .ref 0, .ref 33, .int x3] [.int xs1, .int xs0] (mk (zDm D) ct) :=
  s_iceq c171_442 k1 k2
theorem b171_445 {x3 : Int32} (hq : Q (some (.int (nI 0))) (mk (zDm D) ct)) : RUN X C 171 Q 445 [.retAddr 4, .ref 0, .ref 33, .int x3] [] (mk (zDm D) ct) :=
  s_const c171_445 zcI_0 <|
  s_iret c171_446 (xrtZ rfl (Or.inl rfl)) hq
theorem b171_447 {x3 : Int32} {D1 : zD} {ct1 : zM} {v1 : Int32} (he : C 66 [.ref 0] (mk (zDm D) ct) (some (.int v1)) (mk D1 ct1)) (kk : RUN X C 171 Q 451 [.retAddr 4, .ref 0, .ref 33, .int x3] [.int v1] (mk D1 ct1)) : RUN X C 171 Q 447 [.retAddr 4, .ref 0, .ref 33, .int x3] [] (mk (zDm D) ct) :=
  s_aload_n c171_447 rfl <|
  s_callv (args := []) (r := []) c171_448 rfl rfl (Nat.le_of_ble_eq_true rfl) rfl ⟨rfl, by decide⟩ he kk
theorem b171_451 {x3 : Int32} {xs0 : Int32} {D1 : zD} {ct1 : zM} {v1 : Int32} (he : C 146 [.ref 33] (mk (zDm D) ct) (some (.int v1)) (mk D1 ct1)) (kk : RUN X C 171 Q 455 [.retAddr 4, .ref 0, .ref 33, .int x3] [.int v1, .int xs0] (mk D1 ct1)) : RUN X C 171 Q 451 [.retAddr 4, .ref 0, .ref 33, .int x3] [.int xs0] (mk (zDm D) ct) :=
  s_aload_n c171_451 rfl <|
  s_callv (args := []) (r := [.int xs0]) c171_452 rfl rfl (Nat.le_of_ble_eq_true rfl) rfl ⟨rfl, by decide⟩ he kk
theorem b171_455 {x3 : Int32} {xs0 : Int32} {xs1 : Int32} (k1 : xs0 = xs1 → RUN X C 171 Q 828 [.retAddr 4, .ref 0, .ref 33, .int x3] [] (mk (zDm D) ct)) (k2 : ¬ xs0 = xs1 → RUN X C 171 Q 458 [.retAddr 4, .ref 0, .ref 33, .int x3] [] (mk (zDm D) ct)) : RUN X C 171 Q 455 [.retAddr 4, .ref 0, .ref 33, .int x3] [.int xs1, .int xs0] (mk (zDm D) ct) :=
  s_iceq c171_455 k1 k2
theorem b171_458 {x3 : Int32} (hq : Q (some (.int (nI 0))) (mk (zDm D) ct)) : RUN X C 171 Q 458 [.retAddr 4, .ref 0, .ref 33, .int x3] [] (mk (zDm D) ct) :=
  s_const c171_458 zcI_0 <|
  s_iret c171_459 (xrtZ rfl (Or.inl rfl)) hq
theorem b171_460 {x3 : Int32} {D1 : zD} {ct1 : zM} {v1 : Int32} {j465 : Nat} (hx465 : zix (x3 + (nI 1)) j465 (X.1)) {j470 : Nat} (hx470 : zix (x3 + (nI 2)) j470 (X.1)) (he : C 68 [.ref 0, .int (X.2 j465), .int (X.2 j470)] (mk (zDm D) ct) (some (.int v1)) (mk D1 ct1)) (kk : RUN X C 171 Q 474 [.retAddr 4, .ref 0, .ref 33, .int x3] [.int v1] (mk D1 ct1)) : RUN X C 171 Q 460 [.retAddr 4, .ref 0, .ref 33, .int x3] [] (mk (zDm D) ct) :=
  s_aload_n c171_460 rfl <|
  s_aloadr_n c171_461 rfl <|
  s_iload_n c171_462 rfl <|
  s_const c171_463 zcI_1 <|
  s_iadd c171_464 <|
  s_script c171_465 rfl hx465 <|
  s_aloadr_n c171_466 rfl <|
  s_iload_n c171_467 rfl <|
  s_const c171_468 zcI_2 <|
  s_iadd c171_469 <|
  s_script c171_470 rfl hx470 <|
  s_callv (args := [.int (X.2 j465), .int (X.2 j470)]) (r := []) c171_471 rfl rfl (Nat.le_of_ble_eq_true rfl) rfl ⟨rfl, by decide⟩ he kk
theorem b171_474 {x3 : Int32} {xs0 : Int32} {D1 : zD} {ct1 : zM} {v1 : Int32} {j479 : Nat} (hx479 : zix (x3 + (nI 1)) j479 (X.1)) {j484 : Nat} (hx484 : zix (x3 + (nI 2)) j484 (X.1)) (he : C 147 [.ref 33, .int (X.2 j479), .int (X.2 j484)] (mk (zDm D) ct) (some (.int v1)) (mk D1 ct1)) (kk : RUN X C 171 Q 488 [.retAddr 4, .ref 0, .ref 33, .int x3] [.int v1, .int xs0] (mk D1 ct1)) : RUN X C 171 Q 474 [.retAddr 4, .ref 0, .ref 33, .int x3] [.int xs0] (mk (zDm D) ct) :=
  s_aload_n c171_474 rfl <|
  s_aloadr_n c171_475 rfl <|
  s_iload_n c171_476 rfl <|
  s_const c171_477 zcI_1 <|
  s_iadd c171_478 <|
  s_script c171_479 rfl hx479 <|
  s_aloadr_n c171_480 rfl <|
  s_iload_n c171_481 rfl <|
  s_const c171_482 zcI_2 <|
  s_iadd c171_483 <|
  s_script c171_484 rfl hx484 <|
  s_callv (args := [.int (X.2 j479), .int (X.2 j484)]) (r := [.int xs0]) c171_485 rfl rfl (Nat.le_of_ble_eq_true rfl) rfl ⟨rfl, by decide⟩ he kk
theorem b171_488 {x3 : Int32} {xs0 : Int32} {xs1 : Int32} (k1 : xs0 = xs1 → RUN X C 171 Q 828 [.retAddr 4, .ref 0, .ref 33, .int x3] [] (mk (zDm D) ct)) (k2 : ¬ xs0 = xs1 → RUN X C 171 Q 491 [.retAddr 4, .ref 0, .ref 33, .int x3] [] (mk (zDm D) ct)) : RUN X C 171 Q 488 [.retAddr 4, .ref 0, .ref 33, .int x3] [.int xs1, .int xs0] (mk (zDm D) ct) :=
  s_iceq c171_488 k1 k2
theorem b171_491 {x3 : Int32} (hq : Q (some (.int (nI 0))) (mk (zDm D) ct)) : RUN X C 171 Q 491 [.retAddr 4, .ref 0, .ref 33, .int x3] [] (mk (zDm D) ct) :=
  s_const c171_491 zcI_0 <|
  s_iret c171_492 (xrtZ rfl (Or.inl rfl)) hq
theorem b171_493 {x3 : Int32} {D1 : zD} {ct1 : zM} {v1 : Int32} (he : C 70 [.ref 0] (mk (zDm D) ct) (some (.int v1)) (mk D1 ct1)) (kk : RUN X C 171 Q 497 [.retAddr 4, .ref 0, .ref 33, .int x3] [.int v1] (mk D1 ct1)) : RUN X C 171 Q 493 [.retAddr 4, .ref 0, .ref 33, .int x3] [] (mk (zDm D) ct) :=
  s_aload_n c171_493 rfl <|
  s_callv (args := []) (r := []) c171_494 rfl rfl (Nat.le_of_ble_eq_true rfl) rfl ⟨rfl, by decide⟩ he kk
theorem b171_497 {x3 : Int32} {xs0 : Int32} {D1 : zD} {ct1 : zM} {v1 : Int32} (he : C 150 [.ref 33] (mk (zDm D) ct) (some (.int v1)) (mk D1 ct1)) (kk : RUN X C 171 Q 501 [.retAddr 4, .ref 0, .ref 33, .int x3] [.int v1, .int xs0] (mk D1 ct1)) : RUN X C 171 Q 497 [.retAddr 4, .ref 0, .ref 33, .int x3] [.int xs0] (mk (zDm D) ct) :=
  s_aload_n c171_497 rfl <|
  s_callv (args := []) (r := [.int xs0]) c171_498 rfl rfl (Nat.le_of_ble_eq_true rfl) rfl ⟨rfl, by decide⟩ he kk
theorem b171_501 {x3 : Int32} {xs0 : Int32} {xs1 : Int32} (k1 : xs0 = xs1 → RUN X C 171 Q 828 [.retAddr 4, .ref 0, .ref 33, .int x3] [] (mk (zDm D) ct)) (k2 : ¬ xs0 = xs1 → RUN X C 171 Q 504 [.retAddr 4, .ref 0, .ref 33, .int x3] [] (mk (zDm D) ct)) : RUN X C 171 Q 501 [.retAddr 4, .ref 0, .ref 33, .int x3] [.int xs1, .int xs0] (mk (zDm D) ct) :=
  s_iceq c171_501 k1 k2
theorem b171_504 {x3 : Int32} (hq : Q (some (.int (nI 0))) (mk (zDm D) ct)) : RUN X C 171 Q 504 [.retAddr 4, .ref 0, .ref 33, .int x3] [] (mk (zDm D) ct) :=
  s_const c171_504 zcI_0 <|
  s_iret c171_505 (xrtZ rfl (Or.inl rfl)) hq
theorem b171_506 {x3 : Int32} {D1 : zD} {ct1 : zM} {v1 : Int32} {j511 : Nat} (hx511 : zix (x3 + (nI 1)) j511 (X.1)) (he : C 71 [.ref 0, .int (X.2 j511)] (mk (zDm D) ct) (some (.int v1)) (mk D1 ct1)) (kk : RUN X C 171 Q 515 [.retAddr 4, .ref 0, .ref 33, .int x3] [.int v1] (mk D1 ct1)) : RUN X C 171 Q 506 [.retAddr 4, .ref 0, .ref 33, .int x3] [] (mk (zDm D) ct) :=
  s_aload_n c171_506 rfl <|
  s_aloadr_n c171_507 rfl <|
  s_iload_n c171_508 rfl <|
  s_const c171_509 zcI_1 <|
  s_iadd c171_510 <|
  s_script c171_511 rfl hx511 <|
  s_callv (args := [.int (X.2 j511)]) (r := []) c171_512 rfl rfl (Nat.le_of_ble_eq_true rfl) rfl ⟨rfl, by decide⟩ he kk
theorem b171_515 {x3 : Int32} {xs0 : Int32} {D1 : zD} {ct1 : zM} {v1 : Int32} {j520 : Nat} (hx520 : zix (x3 + (nI 1)) j520 (X.1)) (he : C 151 [.ref 33, .int (X.2 j520)] (mk (zDm D) ct) (some (.int v1)) (mk D1 ct1)) (kk : RUN X C 171 Q 524 [.retAddr 4, .ref 0, .ref 33, .int x3] [.int v1, .int xs0] (mk D1 ct1)) : RUN X C 171 Q 515 [.retAddr 4, .ref 0, .ref 33, .int x3] [.int xs0] (mk (zDm D) ct) :=
  s_aload_n c171_515 rfl <|
  s_aloadr_n c171_516 rfl <|
  s_iload_n c171_517 rfl <|
  s_const c171_518 zcI_1 <|
  s_iadd c171_519 <|
  s_script c171_520 rfl hx520 <|
  s_callv (args := [.int (X.2 j520)]) (r := [.int xs0]) c171_521 rfl rfl (Nat.le_of_ble_eq_true rfl) rfl ⟨rfl, by decide⟩ he kk
theorem b171_524 {x3 : Int32} {xs0 : Int32} {xs1 : Int32} (k1 : xs0 = xs1 → RUN X C 171 Q 828 [.retAddr 4, .ref 0, .ref 33, .int x3] [] (mk (zDm D) ct)) (k2 : ¬ xs0 = xs1 → RUN X C 171 Q 527 [.retAddr 4, .ref 0, .ref 33, .int x3] [] (mk (zDm D) ct)) : RUN X C 171 Q 524 [.retAddr 4, .ref 0, .ref 33, .int x3] [.int xs1, .int xs0] (mk (zDm D) ct) :=
  s_iceq c171_524 k1 k2
theorem b171_527 {x3 : Int32} (hq : Q (some (.int (nI 0))) (mk (zDm D) ct)) : RUN X C 171 Q 527 [.retAddr 4, .ref 0, .ref 33, .int x3] [] (mk (zDm D) ct) :=
  s_const c171_527 zcI_0 <|
  s_iret c171_528 (xrtZ rfl (Or.inl rfl)) hq
theorem b171_529 {x3 : Int32} {D1 : zD} {ct1 : zM} {v1 : Int32} {j534 : Nat} (hx534 : zix (x3 + (nI 1)) j534 (X.1)) (he : C 80 [.ref 0, .int (X.2 j534)] (mk (zDm D) ct) (some (.int v1)) (mk D1 ct1)) (kk : RUN X C 171 Q 538 [.retAddr 4, .ref 0, .ref 33, .int x3] [.int v1] (mk D1 ct1)) : RUN X C 171 Q 529 [.retAddr 4, .ref 0, .ref 33, .int x3] [] (mk (zDm D) ct) :=
  s_aload_n c171_529 rfl <|
  s_aloadr_n c171_530 rfl <|
  s_iload_n c171_531 rfl <|
  s_const c171_532 zcI_1 <|
  s_iadd c171_533 <|
  s_script c171_534 rfl hx534 <|
  s_callv (args := [.int (X.2 j534)]) (r := []) c171_535 rfl rfl (Nat.le_of_ble_eq_true rfl) rfl ⟨rfl, by decide⟩ he kk
theorem b171_538 {x3 : Int32} {xs0 : Int32} {D1 : zD} {ct1 : zM} {v1 : Int32} {j543 : Nat} (hx543 : zix (x3 + (nI 1)) j543 (X.1)) (he : C 155 [.ref 33, .int (X.2 j543)] (mk (zDm D) ct) (some (.int v1)) (mk D1 ct1)) (kk : RUN X C 171 Q 547 [.retAddr 4, .ref 0, .ref 33, .int x3] [.int v1, .int xs0] (mk D1 ct1)) : RUN X C 171 Q 538 [.retAddr 4, .ref 0, .ref 33, .int x3] [.int xs0] (mk (zDm D) ct) :=
  s_aload_n c171_538 rfl <|
  s_aloadr_n c171_539 rfl <|
  s_iload_n c171_540 rfl <|
  s_const c171_541 zcI_1 <|
  s_iadd c171_542 <|
  s_script c171_543 rfl hx543 <|
  s_callv (args := [.int (X.2 j543)]) (r := [.int xs0]) c171_544 rfl rfl (Nat.le_of_ble_eq_true rfl) rfl ⟨rfl, by decide⟩ he kk
theorem b171_547 {x3 : Int32} {xs0 : Int32} {xs1 : Int32} (k1 : xs0 = xs1 → RUN X C 171 Q 828 [.retAddr 4, .ref 0, .ref 33, .int x3] [] (mk (zDm D) ct)) (k2 : ¬ xs0 = xs1 → RUN X C 171 Q 550 [.retAddr 4, .ref 0, .ref 33, .int x3] [] (mk (zDm D) ct)) : RUN X C 171 Q 547 [.retAddr 4, .ref 0, .ref 33, .int x3] [.int xs1, .int xs0] (mk (zDm D) ct) :=
  s_iceq c171_547 k1 k2
theorem b171_550 {x3 : Int32} (hq : Q (some (.int (nI 0))) (mk (zDm D) ct)) : RUN X C 171 Q 550 [.retAddr 4, .ref 0, .ref 33, .int x3] [] (mk (zDm D) ct) :=
  s_const c171_550 zcI_0 <|
  s_iret c171_551 (xrtZ rfl (Or.inl rfl)) hq
theorem b171_552 {x3 : Int32} {D1 : zD} {ct1 : zM} {v1 : Int32} {j557 : Nat} (hx557 : zix (x3 + (nI 1)) j557 (X.1)) (he : C 82 [.ref 0, .int (X.2 j557)] (mk (zDm D) ct) (some (.int v1)) (mk D1 ct1)) (kk : RUN X C 171 Q 561 [.retAddr 4, .ref 0, .ref 33, .int x3] [.int v1] (mk D1 ct1)) : RUN X C 171 Q 552 [.retAddr 4, .ref 0, .ref 33, .int x3] [] (mk (zDm D) ct) :=
  s_aload_n c171_552 rfl <|
  s_aloadr_n c171_553 rfl <|
  s_iload_n c171_554 rfl <|
  s_const c171_555 zcI_1 <|
  s_iadd c171_556 <|
  s_script c171_557 rfl hx557 <|
  s_callv (args := [.int (X.2 j557)]) (r := []) c171_558 rfl rfl (Nat.le_of_ble_eq_true rfl) rfl ⟨rfl, by decide⟩ he kk
theorem b171_561 {x3 : Int32} {xs0 : Int32} {D1 : zD} {ct1 : zM} {v1 : Int32} {j566 : Nat} (hx566 : zix (x3 + (nI 1)) j566 (X.1)) (he : C 156 [.ref 33, .int (X.2 j566)] (mk (zDm D) ct) (some (.int v1)) (mk D1 ct1)) (kk : RUN X C 171 Q 570 [.retAddr 4, .ref 0, .ref 33, .int x3] [.int v1, .int xs0] (mk D1 ct1)) : RUN X C 171 Q 561 [.retAddr 4, .ref 0, .ref 33, .int x3] [.int xs0] (mk (zDm D) ct) :=
  s_aload_n c171_561 rfl <|
  s_aloadr_n c171_562 rfl <|
  s_iload_n c171_563 rfl <|
  s_const c171_564 zcI_1 <|
  s_iadd c171_565 <|
  s_script c171_566 rfl hx566 <|
  s_callv (args := [.int (X.2 j566)]) (r := [.int xs0]) c171_567 rfl rfl (Nat.le_of_ble_eq_true rfl) rfl ⟨rfl, by decide⟩ he kk
theorem b171_570 {x3 : Int32} {xs0 : Int32} {xs1 : Int32} (k1 : xs0 = xs1 → RUN X C 171 Q 828 [.retAddr 4, .ref 0, .ref 33, .int x3] [] (mk (zDm D) ct)) (k2 : ¬ xs0 = xs1 → RUN X C 171 Q 573 [.retAddr 4, .ref 0, .ref 33, .int x3] [] (mk (zDm D) ct)) : RUN X C 171 Q 570 [.retAddr 4, .ref 0, .ref 33, .int x3] [.int xs1, .int xs0] (mk (zDm D) ct) :=
  s_iceq c171_570 k1 k2
theorem b171_573 {x3 : Int32} (hq : Q (some (.int (nI 0))) (mk (zDm D) ct)) : RUN X C 171 Q 573 [.retAddr 4, .ref 0, .ref 33, .int x3] [] (mk (zDm D) ct) :=
  s_const c171_573 zcI_0 <|
  s_iret c171_574 (xrtZ rfl (Or.inl rfl)) hq
theorem b171_575 {x3 : Int32} {D1 : zD} {ct1 : zM} {v1 : Int32} {j580 : Nat} (hx580 : zix (x3 + (nI 1)) j580 (X.1)) {j585 : Nat} (hx585 : zix (x3 + (nI 2)) j585 (X.1)) (he : C 83 [.ref 0, .int (X.2 j580), .int (X.2 j585)] (mk (zDm D) ct) (some (.int v1)) (mk D1 ct1)) (kk : RUN X C 171 Q 589 [.retAddr 4, .ref 0, .ref 33, .int x3] [.int v1] (mk D1 ct1)) : RUN X C 171 Q 575 [.retAddr 4, .ref 0, .ref 33, .int x3] [] (mk (zDm D) ct) :=
  s_aload_n c171_575 rfl <|
  s_aloadr_n c171_576 rfl <|
  s_iload_n c171_577 rfl <|
  s_const c171_578 zcI_1 <|
  s_iadd c171_579 <|
  s_script c171_580 rfl hx580 <|
  s_aloadr_n c171_581 rfl <|
  s_iload_n c171_582 rfl <|
  s_const c171_583 zcI_2 <|
  s_iadd c171_584 <|
  s_script c171_585 rfl hx585 <|
  s_callv (args := [.int (X.2 j580), .int (X.2 j585)]) (r := []) c171_586 rfl rfl (Nat.le_of_ble_eq_true rfl) rfl ⟨rfl, by decide⟩ he kk
theorem b171_589 {x3 : Int32} {xs0 : Int32} {D1 : zD} {ct1 : zM} {v1 : Int32} {j594 : Nat} (hx594 : zix (x3 + (nI 1)) j594 (X.1)) {j599 : Nat} (hx599 : zix (x3 + (nI 2)) j599 (X.1)) (he : C 157 [.ref 33, .int (X.2 j594), .int (X.2 j599)] (mk (zDm D) ct) (some (.int v1)) (mk D1 ct1)) (kk : RUN X C 171 Q 603 [.retAddr 4, .ref 0, .ref 33, .int x3] [.int v1, .int xs0] (mk D1 ct1)) : RUN X C 171 Q 589 [.retAddr 4, .ref 0, .ref 33, .int x3] [.int xs0] (mk (zDm D) ct) :=
  s_aload_n c171_589 rfl <|
  s_aloadr_n c171_590 rfl <|
  s_iload_n c171_591 rfl <|
  s_const c171_592 zcI_1 <|
  s_iadd c171_593 <|
  s_script c171_594 rfl hx594 <|
  s_aloadr_n c171_595 rfl <|
  s_iload_n c171_596 rfl <|
  s_const c171_597 zcI_2 <|
  s_iadd c171_598 <|
  s_script c171_599 rfl hx599 <|
  s_callv (args := [.int (X.2 j594), .int (X.2 j599)]) (r := [.int xs0]) c171_600 rfl rfl (Nat.le_of_ble_eq_true rfl) rfl ⟨rfl, by decide⟩ he kk
theorem b171_603 {x3 : Int32} {xs0 : Int32} {xs1 : Int32} (k1 : xs0 = xs1 → RUN X C 171 Q 828 [.retAddr 4, .ref 0, .ref 33, .int x3] [] (mk (zDm D) ct)) (k2 : ¬ xs0 = xs1 → RUN X C 171 Q 606 [.retAddr 4, .ref 0, .ref 33, .int x3] [] (mk (zDm D) ct)) : RUN X C 171 Q 603 [.retAddr 4, .ref 0, .ref 33, .int x3] [.int xs1, .int xs0] (mk (zDm D) ct) :=
  s_iceq c171_603 k1 k2
theorem b171_606 {x3 : Int32} (hq : Q (some (.int (nI 0))) (mk (zDm D) ct)) : RUN X C 171 Q 606 [.retAddr 4, .ref 0, .ref 33, .int x3] [] (mk (zDm D) ct) :=
  s_const c171_606 zcI_0 <|
  s_iret c171_607 (xrtZ rfl (Or.inl rfl)) hq
theorem b171_608 {x3 : Int32} {D1 : zD} {ct1 : zM} {v1 : Int32} (he : C 84 [.ref 0] (mk (zDm D) ct) (some (.int v1)) (mk D1 ct1)) (kk : RUN X C 171 Q 612 [.retAddr 4, .ref 0, .ref 33, .int x3] [.int v1] (mk D1 ct1)) : RUN X C 171 Q 608 [.retAddr 4, .ref 0, .ref 33, .int x3] [] (mk (zDm D) ct) :=
  s_aload_n c171_608 rfl <|
  s_callv (args := []) (r := []) c171_609 rfl rfl (Nat.le_of_ble_eq_true rfl) rfl ⟨rfl, by decide⟩ he kk
theorem b171_612 {x3 : Int32} {xs0 : Int32} {D1 : zD} {ct1 : zM} {v1 : Int32} (he : C 158 [.ref 33] (mk (zDm D) ct) (some (.int v1)) (mk D1 ct1)) (kk : RUN X C 171 Q 616 [.retAddr 4, .ref 0, .ref 33, .int x3] [.int v1, .int xs0] (mk D1 ct1)) : RUN X C 171 Q 612 [.retAddr 4, .ref 0, .ref 33, .int x3] [.int xs0] (mk (zDm D) ct) :=
  s_aload_n c171_612 rfl <|
  s_callv (args := []) (r := [.int xs0]) c171_613 rfl rfl (Nat.le_of_ble_eq_true rfl) rfl ⟨rfl, by decide⟩ he kk
theorem b171_616 {x3 : Int32} {xs0 : Int32} {xs1 : Int32} (k1 : xs0 = xs1 → RUN X C 171 Q 828 [.retAddr 4, .ref 0, .ref 33, .int x3] [] (mk (zDm D) ct)) (k2 : ¬ xs0 = xs1 → RUN X C 171 Q 619 [.retAddr 4, .ref 0, .ref 33, .int x3] [] (mk (zDm D) ct)) : RUN X C 171 Q 616 [.retAddr 4, .ref 0, .ref 33, .int x3] [.int xs1, .int xs0] (mk (zDm D) ct) :=
  s_iceq c171_616 k1 k2
theorem b171_619 {x3 : Int32} (hq : Q (some (.int (nI 0))) (mk (zDm D) ct)) : RUN X C 171 Q 619 [.retAddr 4, .ref 0, .ref 33, .int x3] [] (mk (zDm D) ct) :=
  s_const c171_619 zcI_0 <|
  s_iret c171_620 (xrtZ rfl (Or.inl rfl)) hq
theorem b171_621 {x3 : Int32} {D1 : zD} {ct1 : zM} {v1 : Int32} {j626 : Nat} (hx626 : zix (x3 + (nI 1)) j626 (X.1)) (he : C 85 [.ref 0, .int (X.2 j626)] (mk (zDm D) ct) (some (.int v1)) (mk D1 ct1)) (kk : RUN X C 171 Q 630 [.retAddr 4, .ref 0, .ref 33, .int x3] [.int v1] (mk D1 ct1)) : RUN X C 171 Q 621 [.retAddr 4, .ref 0, .ref 33, .int x3] [] (mk (zDm D) ct) :=
  s_aload_n c171_621 rfl <|
  s_aloadr_n c171_622 rfl <|
  s_iload_n c171_623 rfl <|
  s_const c171_624 zcI_1 <|
  s_iadd c171_625 <|
  s_script c171_626 rfl hx626 <|
  s_callv (args := [.int (X.2 j626)]) (r := []) c171_627 rfl rfl (Nat.le_of_ble_eq_true rfl) rfl ⟨rfl, by decide⟩ he kk
theorem b171_630 {x3 : Int32} {xs0 : Int32} {D1 : zD} {ct1 : zM} {v1 : Int32} {j635 : Nat} (hx635 : zix (x3 + (nI 1)) j635 (X.1)) (he : C 159 [.ref 33, .int (X.2 j635)] (mk (zDm D) ct) (some (.int v1)) (mk D1 ct1)) (kk : RUN X C 171 Q 639 [.retAddr 4, .ref 0, .ref 33, .int x3] [.int v1, .int xs0] (mk D1 ct1)) : RUN X C 171 Q 630 [.retAddr 4, .ref 0, .ref 33, .int x3] [.int xs0] (mk (zDm D) ct) :=
  s_aload_n c171_630 rfl <|
  s_aloadr_n c171_631 rfl <|
  s_iload_n c171_632 rfl <|
  s_const c171_633 zcI_1 <|
  s_iadd c171_634 <|
  s_script c171_635 rfl hx635 <|
  s_callv (args := [.int (X.2 j635)]) (r := [.int xs0]) c171_636 rfl rfl (Nat.le_of_ble_eq_true rfl) rfl ⟨rfl, by decide⟩ he kk
theorem b171_639 {x3 : Int32} {xs0 : Int32} {xs1 : Int32} (k1 : xs0 = xs1 → RUN X C 171 Q 828 [.retAddr 4, .ref 0, .ref 33, .int x3] [] (mk (zDm D) ct)) (k2 : ¬ xs0 = xs1 → RUN X C 171 Q 642 [.retAddr 4, .ref 0, .ref 33, .int x3] [] (mk (zDm D) ct)) : RUN X C 171 Q 639 [.retAddr 4, .ref 0, .ref 33, .int x3] [.int xs1, .int xs0] (mk (zDm D) ct) :=
  s_iceq c171_639 k1 k2
theorem b171_642 {x3 : Int32} (hq : Q (some (.int (nI 0))) (mk (zDm D) ct)) : RUN X C 171 Q 642 [.retAddr 4, .ref 0, .ref 33, .int x3] [] (mk (zDm D) ct) :=
  s_const c171_642 zcI_0 <|
  s_iret c171_643 (xrtZ rfl (Or.inl rfl)) hq
theorem b171_644 {x3 : Int32} {D1 : zD} {ct1 : zM} {v1 : Int32} {j649 : Nat} (hx649 : zix (x3 + (nI 1)) j649 (X.1)) (he : C 89 [.ref 0, .int (X.2 j649)] (mk (zDm D) ct) (some (.int v1)) (mk D1 ct1)) (kk : RUN X C 171 Q 653 [.retAddr 4, .ref 0, .ref 33, .int x3] [.int v1] (mk D1 ct1)) : RUN X C 171 Q 644 [.retAddr 4, .ref 0, .ref 33, .int x3] [] (mk (zDm D) ct) :=
  s_aload_n c171_644 rfl <|
  s_aloadr_n c171_645 rfl <|
  s_iload_n c171_646 rfl <|
  s_const c171_647 zcI_1 <|
  s_iadd c171_648 <|
  s_script c171_649 rfl hx649 <|
  s_callv (args := [.int (X.2 j649)]) (r := []) c171_650 rfl rfl (Nat.le_of_ble_eq_true rfl) rfl ⟨rfl, by decide⟩ he kk
theorem b171_653 {x3 : Int32} {xs0 : Int32} {D1 : zD} {ct1 : zM} {v1 : Int32} {j658 : Nat} (hx658 : zix (x3 + (nI 1)) j658 (X.1)) (he : C 162 [.ref 33, .int (X.2 j658)] (mk (zDm D) ct) (some (.int v1)) (mk D1 ct1)) (kk : RUN X C 171 Q 662 [.retAddr 4, .ref 0, .ref 33, .int x3] [.int v1, .int xs0] (mk D1 ct1)) : RUN X C 171 Q 653 [.retAddr 4, .ref 0, .ref 33, .int x3] [.int xs0] (mk (zDm D) ct) :=
  s_aload_n c171_653 rfl <|
  s_aloadr_n c171_654 rfl <|
  s_iload_n c171_655 rfl <|
  s_const c171_656 zcI_1 <|
  s_iadd c171_657 <|
  s_script c171_658 rfl hx658 <|
  s_callv (args := [.int (X.2 j658)]) (r := [.int xs0]) c171_659 rfl rfl (Nat.le_of_ble_eq_true rfl) rfl ⟨rfl, by decide⟩ he kk
theorem b171_662 {x3 : Int32} {xs0 : Int32} {xs1 : Int32} (k1 : xs0 = xs1 → RUN X C 171 Q 828 [.retAddr 4, .ref 0, .ref 33, .int x3] [] (mk (zDm D) ct)) (k2 : ¬ xs0 = xs1 → RUN X C 171 Q 665 [.retAddr 4, .ref 0, .ref 33, .int x3] [] (mk (zDm D) ct)) : RUN X C 171 Q 662 [.retAddr 4, .ref 0, .ref 33, .int x3] [.int xs1, .int xs0] (mk (zDm D) ct) :=
  s_iceq c171_662 k1 k2
theorem b171_665 {x3 : Int32} (hq : Q (some (.int (nI 0))) (mk (zDm D) ct)) : RUN X C 171 Q 665 [.retAddr 4, .ref 0, .ref 33, .int x3] [] (mk (zDm D) ct) :=
  s_const c171_665 zcI_0 <|
  s_iret c171_666 (xrtZ rfl (Or.inl rfl)) hq
theorem b171_667 {x3 : Int32} {D1 : zD} {ct1 : zM} {v1 : Int32} {j672 : Nat} (hx672 : zix (x3 + (nI 1)) j672 (X.1)) (he : C 90 [.ref 0, .int (X.2 j672)] (mk (zDm D) ct) (some (.int v1)) (mk D1 ct1)) (kk : RUN X C 171 Q 676 [.retAddr 4, .ref 0, .ref 33, .int x3] [.int v1] (mk D1 ct1)) : RUN X C 171 Q 667 [.retAddr 4, .ref 0, .ref 33, .int x3] [] (mk (zDm D) ct) :=
  s_aload_n c171_667 rfl <|
  s_aloadr_n c171_668 rfl <|
  s_iload_n c171_669 rfl <|
  s_const c171_670 zcI_1 <|
  s_iadd c171_671 <|
  s_script c171_672 rfl hx672 <|
  s_callv (args := [.int (X.2 j672)]) (r := []) c171_673 rfl rfl (Nat.le_of_ble_eq_true rfl) rfl ⟨rfl, by decide⟩ he kk
theorem b171_676 {x3 : Int32} {xs0 : Int32} {D1 : zD} {ct1 : zM} {v1 : Int32} {j681 : Nat} (hx681 : zix (x3 + (nI 1)) j681 (X.1)) (he : C 163 [.ref 33, .int (X.2 j681)] (mk (zDm D) ct) (some (.int v1)) (mk D1 ct1)) (kk : RUN X C 171 Q 685 [.retAddr 4, .ref 0, .ref 33, .int x3] [.int v1, .int xs0] (mk D1 ct1)) : RUN X C 171 Q 676 [.retAddr 4, .ref 0, .ref 33, .int x3] [.int xs0] (mk (zDm D) ct) :=
  s_aload_n c171_676 rfl <|
  s_aloadr_n c171_677 rfl <|
  s_iload_n c171_678 rfl <|
  s_const c171_679 zcI_1 <|
  s_iadd c171_680 <|
  s_script c171_681 rfl hx681 <|
  s_callv (args := [.int (X.2 j681)]) (r := [.int xs0]) c171_682 rfl rfl (Nat.le_of_ble_eq_true rfl) rfl ⟨rfl, by decide⟩ he kk
theorem b171_685 {x3 : Int32} {xs0 : Int32} {xs1 : Int32} (k1 : xs0 = xs1 → RUN X C 171 Q 828 [.retAddr 4, .ref 0, .ref 33, .int x3] [] (mk (zDm D) ct)) (k2 : ¬ xs0 = xs1 → RUN X C 171 Q 688 [.retAddr 4, .ref 0, .ref 33, .int x3] [] (mk (zDm D) ct)) : RUN X C 171 Q 685 [.retAddr 4, .ref 0, .ref 33, .int x3] [.int xs1, .int xs0] (mk (zDm D) ct) :=
  s_iceq c171_685 k1 k2
theorem b171_688 {x3 : Int32} (hq : Q (some (.int (nI 0))) (mk (zDm D) ct)) : RUN X C 171 Q 688 [.retAddr 4, .ref 0, .ref 33, .int x3] [] (mk (zDm D) ct) :=
  s_const c171_688 zcI_0 <|
  s_iret c171_689 (xrtZ rfl (Or.inl rfl)) hq
theorem b171_690 {x3 : Int32} {D1 : zD} {ct1 : zM} {v1 : Int32} {j695 : Nat} (hx695 : zix (x3 + (nI 1)) j695 (X.1)) (he : C 91 [.ref 0, .int (X.2 j695)] (mk (zDm D) ct) (some (.int v1)) (mk D1 ct1)) (kk : RUN X C 171 Q 699 [.retAddr 4, .ref 0, .ref 33, .int x3] [.int v1] (mk D1 ct1)) : RUN X C 171 Q 690 [.retAddr 4, .ref 0, .ref 33, .int x3] [] (mk (zDm D) ct) :=
  s_aload_n c171_690 rfl <|
  s_aloadr_n c171_691 rfl <|
  s_iload_n c171_692 rfl <|
  s_const c171_693 zcI_1 <|
  s_iadd c171_694 <|
  s_script c171_695 rfl hx695 <|
  s_callv (args := [.int (X.2 j695)]) (r := []) c171_696 rfl rfl (Nat.le_of_ble_eq_true rfl) rfl ⟨rfl, by decide⟩ he kk
theorem b171_699 {x3 : Int32} {xs0 : Int32} {D1 : zD} {ct1 : zM} {v1 : Int32} {j704 : Nat} (hx704 : zix (x3 + (nI 1)) j704 (X.1)) (he : C 164 [.ref 33, .int (X.2 j704)] (mk (zDm D) ct) (some (.int v1)) (mk D1 ct1)) (kk : RUN X C 171 Q 708 [.retAddr 4, .ref 0, .ref 33, .int x3] [.int v1, .int xs0] (mk D1 ct1)) : RUN X C 171 Q 699 [.retAddr 4, .ref 0, .ref 33, .int x3] [.int xs0] (mk (zDm D) ct) :=
  s_aload_n c171_699 rfl <|
  s_aloadr_n c171_700 rfl <|
  s_iload_n c171_701 rfl <|
  s_const c171_702 zcI_1 <|
  s_iadd c171_703 <|
  s_script c171_704 rfl hx704 <|
  s_callv (args := [.int (X.2 j704)]) (r := [.int xs0]) c171_705 rfl rfl (Nat.le_of_ble_eq_true rfl) rfl ⟨rfl, by decide⟩ he kk
theorem b171_708 {x3 : Int32} {xs0 : Int32} {xs1 : Int32} (k1 : xs0 = xs1 → RUN X C 171 Q 828 [.retAddr 4, .ref 0, .ref 33, .int x3] [] (mk (zDm D) ct)) (k2 : ¬ xs0 = xs1 → RUN X C 171 Q 711 [.retAddr 4, .ref 0, .ref 33, .int x3] [] (mk (zDm D) ct)) : RUN X C 171 Q 708 [.retAddr 4, .ref 0, .ref 33, .int x3] [.int xs1, .int xs0] (mk (zDm D) ct) :=
  s_iceq c171_708 k1 k2
theorem b171_711 {x3 : Int32} (hq : Q (some (.int (nI 0))) (mk (zDm D) ct)) : RUN X C 171 Q 711 [.retAddr 4, .ref 0, .ref 33, .int x3] [] (mk (zDm D) ct) :=
  s_const c171_711 zcI_0 <|
  s_iret c171_712 (xrtZ rfl (Or.inl rfl)) hq
theorem b171_713 {x3 : Int32} {D1 : zD} {ct1 : zM} {v1 : Int32} {j718 : Nat} (hx718 : zix (x3 + (nI 1)) j718 (X.1)) (he : C 93 [.ref 0, .int (X.2 j718)] (mk (zDm D) ct) (some (.int v1)) (mk D1 ct1)) (kk : RUN X C 171 Q 722 [.retAddr 4, .ref 0, .ref 33, .int x3] [.int v1] (mk D1 ct1)) : RUN X C 171 Q 713 [.retAddr 4, .ref 0, .ref 33, .int x3] [] (mk (zDm D) ct) :=
  s_aload_n c171_713 rfl <|
  s_aloadr_n c171_714 rfl <|
  s_iload_n c171_715 rfl <|
  s_const c171_716 zcI_1 <|
  s_iadd c171_717 <|
  s_script c171_718 rfl hx718 <|
  s_callv (args := [.int (X.2 j718)]) (r := []) c171_719 rfl rfl (Nat.le_of_ble_eq_true rfl) rfl ⟨rfl, by decide⟩ he kk
theorem b171_722 {x3 : Int32} {xs0 : Int32} {D1 : zD} {ct1 : zM} {v1 : Int32} {j727 : Nat} (hx727 : zix (x3 + (nI 1)) j727 (X.1)) (he : C 166 [.ref 33, .int (X.2 j727)] (mk (zDm D) ct) (some (.int v1)) (mk D1 ct1)) (kk : RUN X C 171 Q 731 [.retAddr 4, .ref 0, .ref 33, .int x3] [.int v1, .int xs0] (mk D1 ct1)) : RUN X C 171 Q 722 [.retAddr 4, .ref 0, .ref 33, .int x3] [.int xs0] (mk (zDm D) ct) :=
  s_aload_n c171_722 rfl <|
  s_aloadr_n c171_723 rfl <|
  s_iload_n c171_724 rfl <|
  s_const c171_725 zcI_1 <|
  s_iadd c171_726 <|
  s_script c171_727 rfl hx727 <|
  s_callv (args := [.int (X.2 j727)]) (r := [.int xs0]) c171_728 rfl rfl (Nat.le_of_ble_eq_true rfl) rfl ⟨rfl, by decide⟩ he kk
theorem b171_731 {x3 : Int32} {xs0 : Int32} {xs1 : Int32} (k1 : xs0 = xs1 → RUN X C 171 Q 828 [.retAddr 4, .ref 0, .ref 33, .int x3] [] (mk (zDm D) ct)) (k2 : ¬ xs0 = xs1 → RUN X C 171 Q 734 [.retAddr 4, .ref 0, .ref 33, .int x3] [] (mk (zDm D) ct)) : RUN X C 171 Q 731 [.retAddr 4, .ref 0, .ref 33, .int x3] [.int xs1, .int xs0] (mk (zDm D) ct) :=
  s_iceq c171_731 k1 k2
theorem b171_734 {x3 : Int32} (hq : Q (some (.int (nI 0))) (mk (zDm D) ct)) : RUN X C 171 Q 734 [.retAddr 4, .ref 0, .ref 33, .int x3] [] (mk (zDm D) ct) :=
  s_const c171_734 zcI_0 <|
  s_iret c171_735 (xrtZ rfl (Or.inl rfl)) hq
theorem b171_736 {x3 : Int32} {D1 : zD} {ct1 : zM} {v1 : Int32} {j741 : Nat} (hx741 : zix (x3 + (nI 1)) j741 (X.1)) {j746 : Nat} (hx746 : zix (x3 + (nI 2)) j746 (X.1)) {j751 : Nat} (hx751 : zix (x3 + (nI 3)) j751 (X.1)) (he : C 95 [.ref 0, .int (X.2 j741), .int (X.2 j746), .int (X.2 j751)] (mk (zDm D) ct) (some (.int v1)) (mk D1 ct1)) (kk : RUN X C 171 Q 755 [.retAddr 4, .ref 0, .ref 33, .int x3] [.int v1] (mk D1 ct1)) : RUN X C 171 Q 736 [.retAddr 4, .ref 0, .ref 33, .int x3] [] (mk (zDm D) ct) :=
  s_aload_n c171_736 rfl <|
  s_aloadr_n c171_737 rfl <|
  s_iload_n c171_738 rfl <|
  s_const c171_739 zcI_1 <|
  s_iadd c171_740 <|
  s_script c171_741 rfl hx741 <|
  s_aloadr_n c171_742 rfl <|
  s_iload_n c171_743 rfl <|
  s_const c171_744 zcI_2 <|
  s_iadd c171_745 <|
  s_script c171_746 rfl hx746 <|
  s_aloadr_n c171_747 rfl <|
  s_iload_n c171_748 rfl <|
  s_const c171_749 zcI_3 <|
  s_iadd c171_750 <|
  s_script c171_751 rfl hx751 <|
  s_callv (args := [.int (X.2 j741), .int (X.2 j746), .int (X.2 j751)]) (r := []) c171_752 rfl rfl (Nat.le_of_ble_eq_true rfl) rfl ⟨rfl, by decide⟩ he kk
theorem b171_755 {x3 : Int32} {xs0 : Int32} {D1 : zD} {ct1 : zM} {v1 : Int32} {j760 : Nat} (hx760 : zix (x3 + (nI 1)) j760 (X.1)) {j765 : Nat} (hx765 : zix (x3 + (nI 2)) j765 (X.1)) {j770 : Nat} (hx770 : zix (x3 + (nI 3)) j770 (X.1)) (he : C 167 [.ref 33, .int (X.2 j760), .int (X.2 j765), .int (X.2 j770)] (mk (zDm D) ct) (some (.int v1)) (mk D1 ct1)) (kk : RUN X C 171 Q 774 [.retAddr 4, .ref 0, .ref 33, .int x3] [.int v1, .int xs0] (mk D1 ct1)) : RUN X C 171 Q 755 [.retAddr 4, .ref 0, .ref 33, .int x3] [.int xs0] (mk (zDm D) ct) :=
  s_aload_n c171_755 rfl <|
  s_aloadr_n c171_756 rfl <|
  s_iload_n c171_757 rfl <|
  s_const c171_758 zcI_1 <|
  s_iadd c171_759 <|
  s_script c171_760 rfl hx760 <|
  s_aloadr_n c171_761 rfl <|
  s_iload_n c171_762 rfl <|
  s_const c171_763 zcI_2 <|
  s_iadd c171_764 <|
  s_script c171_765 rfl hx765 <|
  s_aloadr_n c171_766 rfl <|
  s_iload_n c171_767 rfl <|
  s_const c171_768 zcI_3 <|
  s_iadd c171_769 <|
  s_script c171_770 rfl hx770 <|
  s_callv (args := [.int (X.2 j760), .int (X.2 j765), .int (X.2 j770)]) (r := [.int xs0]) c171_771 rfl rfl (Nat.le_of_ble_eq_true rfl) rfl ⟨rfl, by decide⟩ he kk
theorem b171_774 {x3 : Int32} {xs0 : Int32} {xs1 : Int32} (k1 : xs0 = xs1 → RUN X C 171 Q 828 [.retAddr 4, .ref 0, .ref 33, .int x3] [] (mk (zDm D) ct)) (k2 : ¬ xs0 = xs1 → RUN X C 171 Q 777 [.retAddr 4, .ref 0, .ref 33, .int x3] [] (mk (zDm D) ct)) : RUN X C 171 Q 774 [.retAddr 4, .ref 0, .ref 33, .int x3] [.int xs1, .int xs0] (mk (zDm D) ct) :=
  s_iceq c171_774 k1 k2
theorem b171_777 {x3 : Int32} (hq : Q (some (.int (nI 0))) (mk (zDm D) ct)) : RUN X C 171 Q 777 [.retAddr 4, .ref 0, .ref 33, .int x3] [] (mk (zDm D) ct) :=
  s_const c171_777 zcI_0 <|
  s_iret c171_778 (xrtZ rfl (Or.inl rfl)) hq
theorem b171_779 {x3 : Int32} {D1 : zD} {ct1 : zM} {v1 : Int32} (he : C 98 [.ref 0] (mk (zDm D) ct) (some (.int v1)) (mk D1 ct1)) (kk : RUN X C 171 Q 783 [.retAddr 4, .ref 0, .ref 33, .int x3] [.int v1] (mk D1 ct1)) : RUN X C 171 Q 779 [.retAddr 4, .ref 0, .ref 33, .int x3] [] (mk (zDm D) ct) :=
  s_aload_n c171_779 rfl <|
  s_callv (args := []) (r := []) c171_780 rfl rfl (Nat.le_of_ble_eq_true rfl) rfl ⟨rfl, by decide⟩ he kk
theorem b171_783 {x3 : Int32} {xs0 : Int32} {D1 : zD} {ct1 : zM} {v1 : Int32} (he : C 168 [.ref 33] (mk (zDm D) ct) (some (.int v1)) (mk D1 ct1)) (kk : RUN X C 171 Q 787 [.retAddr 4, .ref 0, .ref 33, .int x3] [.int v1, .int xs0] (mk D1 ct1)) : RUN X C 171 Q 783 [.retAddr 4, .ref 0, .ref 33, .int x3] [.int xs0] (mk (zDm D) ct) :=
  s_aload_n c171_783 rfl <|
  s_callv (args := []) (r := [.int xs0]) c171_784 rfl rfl (Nat.le_of_ble_eq_true rfl) rfl ⟨rfl, by decide⟩ he kk
theorem b171_787 {x3 : Int32} {xs0 : Int32} {xs1 : Int32} (k1 : xs0 = xs1 → RUN X C 171 Q 828 [.retAddr 4, .ref 0, .ref 33, .int x3] [] (mk (zDm D) ct)) (k2 : ¬ xs0 = xs1 → RUN X C 171 Q 790 [.retAddr 4, .ref 0, .ref 33, .int x3] [] (mk (zDm D) ct)) : RUN X C 171 Q 787 [.retAddr 4, .ref 0, .ref 33, .int x3] [.int xs1, .int xs0] (mk (zDm D) ct) :=
  s_iceq c171_787 k1 k2
theorem b171_790 {x3 : Int32} (hq : Q (some (.int (nI 0))) (mk (zDm D) ct)) : RUN X C 171 Q 790 [.retAddr 4, .ref 0, .ref 33, .int x3] [] (mk (zDm D) ct) :=
  s_const c171_790 zcI_0 <|
  s_iret c171_791 (xrtZ rfl (Or.inl rfl)) hq
theorem b171_792 {x3 : Int32} {D1 : zD} {ct1 : zM} {v1 : Int32} (he : C 99 [.ref 0] (mk (zDm D) ct) (some (.int v1)) (mk D1 ct1)) (kk : RUN X C 171 Q 796 [.retAddr 4, .ref 0, .ref 33, .int x3] [.int v1] (mk D1 ct1)) : RUN X C 171 Q 792 [.retAddr 4, .ref 0, .ref 33, .int x3] [] (mk (zDm D) ct) :=
  s_aload_n c171_792 rfl <|
  s_callv (args := []) (r := []) c171_793 rfl rfl (Nat.le_of_ble_eq_true rfl) rfl ⟨rfl, by decide⟩ he kk
theorem b171_796 {x3 : Int32} {xs0 : Int32} {D1 : zD} {ct1 : zM} {v1 : Int32} (he : C 169 [.ref 33] (mk (zDm D) ct) (some (.int v1)) (mk D1 ct1)) (kk : RUN X C 171 Q 800 [.retAddr 4, .ref 0, .ref 33, .int x3] [.int v1, .int xs0] (mk D1 ct1)) : RUN X C 171 Q 796 [.retAddr 4, .ref 0, .ref 33, .int x3] [.int xs0] (mk (zDm D) ct) :=
  s_aload_n c171_796 rfl <|
  s_callv (args := []) (r := [.int xs0]) c171_797 rfl rfl (Nat.le_of_ble_eq_true rfl) rfl ⟨rfl, by decide⟩ he kk
theorem b171_800 {x3 : Int32} {xs0 : Int32} {xs1 : Int32} (k1 : xs0 = xs1 → RUN X C 171 Q 828 [.retAddr 4, .ref 0, .ref 33, .int x3] [] (mk (zDm D) ct)) (k2 : ¬ xs0 = xs1 → RUN X C 171 Q 803 [.retAddr 4, .ref 0, .ref 33, .int x3] [] (mk (zDm D) ct)) : RUN X C 171 Q 800 [.retAddr 4, .ref 0, .ref 33, .int x3] [.int xs1, .int xs0] (mk (zDm D) ct) :=
  s_iceq c171_800 k1 k2
theorem b171_803 {x3 : Int32} (hq : Q (some (.int (nI 0))) (mk (zDm D) ct)) : RUN X C 171 Q 803 [.retAddr 4, .ref 0, .ref 33, .int x3] [] (mk (zDm D) ct) :=
  s_const c171_803 zcI_0 <|
  s_iret c171_804 (xrtZ rfl (Or.inl rfl)) hq
theorem b171_805 {x3 : Int32} {D1 : zD} {ct1 : zM} {v1 : Int32} {j810 : Nat} (hx810 : zix (x3 + (nI 1)) j810 (X.1)) (he : C 100 [.ref 0, .int (X.2 j810)] (mk (zDm D) ct) (some (.int v1)) (mk D1 ct1)) (kk : RUN X C 171 Q 814 [.retAddr 4, .ref 0, .ref 33, .int x3] [.int v1] (mk D1 ct1)) : RUN X C 171 Q 805 [.retAddr 4, .ref 0, .ref 33, .int x3] [] (mk (zDm D) ct) :=
  s_aload_n c171_805 rfl <|
  s_aloadr_n c171_806 rfl <|
  s_iload_n c171_807 rfl <|
  s_const c171_808 zcI_1 <|
  s_iadd c171_809 <|
  s_script c171_810 rfl hx810 <|
  s_callv (args := [.int (X.2 j810)]) (r := []) c171_811 rfl rfl (Nat.le_of_ble_eq_true rfl) rfl ⟨rfl, by decide⟩ he kk
theorem b171_814 {x3 : Int32} {xs0 : Int32} {D1 : zD} {ct1 : zM} {v1 : Int32} {j819 : Nat} (hx819 : zix (x3 + (nI 1)) j819 (X.1)) (he : C 170 [.ref 33, .int (X.2 j819)] (mk (zDm D) ct) (some (.int v1)) (mk D1 ct1)) (kk : RUN X C 171 Q 823 [.retAddr 4, .ref 0, .ref 33, .int x3] [.int v1, .int xs0] (mk D1 ct1)) : RUN X C 171 Q 814 [.retAddr 4, .ref 0, .ref 33, .int x3] [.int xs0] (mk (zDm D) ct) :=
  s_aload_n c171_814 rfl <|
  s_aloadr_n c171_815 rfl <|
  s_iload_n c171_816 rfl <|
  s_const c171_817 zcI_1 <|
  s_iadd c171_818 <|
  s_script c171_819 rfl hx819 <|
  s_callv (args := [.int (X.2 j819)]) (r := [.int xs0]) c171_820 rfl rfl (Nat.le_of_ble_eq_true rfl) rfl ⟨rfl, by decide⟩ he kk
theorem b171_823 {x3 : Int32} {xs0 : Int32} {xs1 : Int32} (k1 : xs0 = xs1 → RUN X C 171 Q 828 [.retAddr 4, .ref 0, .ref 33, .int x3] [] (mk (zDm D) ct)) (k2 : ¬ xs0 = xs1 → RUN X C 171 Q 826 [.retAddr 4, .ref 0, .ref 33, .int x3] [] (mk (zDm D) ct)) : RUN X C 171 Q 823 [.retAddr 4, .ref 0, .ref 33, .int x3] [.int xs1, .int xs0] (mk (zDm D) ct) :=
  s_iceq c171_823 k1 k2
theorem b171_826 {x3 : Int32} (hq : Q (some (.int (nI 0))) (mk (zDm D) ct)) : RUN X C 171 Q 826 [.retAddr 4, .ref 0, .ref 33, .int x3] [] (mk (zDm D) ct) :=
  s_const c171_826 zcI_0 <|
  s_iret c171_827 (xrtZ rfl (Or.inl rfl)) hq
theorem b171_828 {x3 : Int32} (kk : RUN X C 171 Q 18 [.retAddr 4, .ref 0, .ref 33, .int (x3 + nI 4)] [] (mk (zDm D) ct)) : RUN X C 171 Q 828 [.retAddr 4, .ref 0, .ref 33, .int x3] [] (mk (zDm D) ct) :=
  s_iinc c171_828 rfl True.intro zcI_4 <|
  s_goto c171_831 <|
  kk
theorem b171_834 {x3 : Int32} (hq : Q (some (.int (nI 1))) (mk (zDm D) ct)) : RUN X C 171 Q 834 [.retAddr 4, .ref 0, .ref 33, .int x3] [] (mk (zDm D) ct) :=
  s_const c171_834 zcI_1 <|
  s_iret c171_835 (xrtZ rfl (Or.inr rfl)) hq
end
