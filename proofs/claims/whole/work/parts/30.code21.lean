section
abbrev b_Model_commit : ByteArray := prog_7_method_40_code
def y_Model_commit : MethodName := ⟨"StampedStoreModel", "commit", "(I)I"⟩
def w_Model_commit : List Cond := .code y_Model_commit b_Model_commit 6 (some .int) :: w_all
theorem d_Model_commit_0 : decode b_Model_commit 0 = .ok (.iload_n 1, 1) := by decide +kernel
theorem d_Model_commit_1 : decode b_Model_commit 1 = .ok (.aload_n 0, 1) := by decide +kernel
theorem d_Model_commit_2 : decode b_Model_commit 2 = .ok (.getfield 135, 3) := by decide +kernel
theorem d_Model_commit_5 : decode b_Model_commit 5 = .ok (.invokestatic 78, 3) := by decide +kernel
theorem d_Model_commit_8 : decode b_Model_commit 8 = .ok (.ifCond .ne 5, 3) := by decide +kernel
theorem d_Model_commit_11 : decode b_Model_commit 11 = .ok (.iconst (-1), 1) := by decide +kernel
theorem d_Model_commit_12 : decode b_Model_commit 12 = .ok (.ireturn, 1) := by decide +kernel
theorem d_Model_commit_13 : decode b_Model_commit 13 = .ok (.aload_n 0, 1) := by decide +kernel
theorem d_Model_commit_14 : decode b_Model_commit 14 = .ok (.getfield 53, 3) := by decide +kernel
theorem d_Model_commit_17 : decode b_Model_commit 17 = .ok (.iload_n 1, 1) := by decide +kernel
theorem d_Model_commit_18 : decode b_Model_commit 18 = .ok (.iaload, 1) := by decide +kernel
theorem d_Model_commit_19 : decode b_Model_commit 19 = .ok (.ifCond .eq 6, 3) := by decide +kernel
theorem d_Model_commit_22 : decode b_Model_commit 22 = .ok (.bipush (-2), 2) := by decide +kernel
theorem d_Model_commit_24 : decode b_Model_commit 24 = .ok (.ireturn, 1) := by decide +kernel
theorem d_Model_commit_25 : decode b_Model_commit 25 = .ok (.iconst 0, 1) := by decide +kernel
theorem d_Model_commit_26 : decode b_Model_commit 26 = .ok (.istore_n 2, 1) := by decide +kernel
theorem d_Model_commit_27 : decode b_Model_commit 27 = .ok (.iload_n 2, 1) := by decide +kernel
theorem d_Model_commit_28 : decode b_Model_commit 28 = .ok (.iconst 2, 1) := by decide +kernel
theorem d_Model_commit_29 : decode b_Model_commit 29 = .ok (.if_icmp .ge 29, 3) := by decide +kernel
theorem d_Model_commit_32 : decode b_Model_commit 32 = .ok (.aload_n 0, 1) := by decide +kernel
theorem d_Model_commit_33 : decode b_Model_commit 33 = .ok (.iload_n 1, 1) := by decide +kernel
theorem d_Model_commit_34 : decode b_Model_commit 34 = .ok (.iload_n 2, 1) := by decide +kernel
theorem d_Model_commit_35 : decode b_Model_commit 35 = .ok (.invokevirtual 159, 3) := by decide +kernel
theorem d_Model_commit_38 : decode b_Model_commit 38 = .ok (.ifCond .eq 14, 3) := by decide +kernel
theorem d_Model_commit_41 : decode b_Model_commit 41 = .ok (.aload_n 0, 1) := by decide +kernel
theorem d_Model_commit_42 : decode b_Model_commit 42 = .ok (.iload_n 2, 1) := by decide +kernel
theorem d_Model_commit_43 : decode b_Model_commit 43 = .ok (.invokevirtual 93, 3) := by decide +kernel
theorem d_Model_commit_46 : decode b_Model_commit 46 = .ok (.ifCond .ge 6, 3) := by decide +kernel
theorem d_Model_commit_49 : decode b_Model_commit 49 = .ok (.bipush (-3), 2) := by decide +kernel
theorem d_Model_commit_51 : decode b_Model_commit 51 = .ok (.ireturn, 1) := by decide +kernel
theorem d_Model_commit_52 : decode b_Model_commit 52 = .ok (.iinc 2 1, 3) := by decide +kernel
theorem d_Model_commit_55 : decode b_Model_commit 55 = .ok (.goto (-28), 3) := by decide +kernel
theorem d_Model_commit_58 : decode b_Model_commit 58 = .ok (.iconst 0, 1) := by decide +kernel
theorem d_Model_commit_59 : decode b_Model_commit 59 = .ok (.istore_n 2, 1) := by decide +kernel
theorem d_Model_commit_60 : decode b_Model_commit 60 = .ok (.iload_n 2, 1) := by decide +kernel
theorem d_Model_commit_61 : decode b_Model_commit 61 = .ok (.iconst 2, 1) := by decide +kernel
theorem d_Model_commit_62 : decode b_Model_commit 62 = .ok (.if_icmp .ge 27, 3) := by decide +kernel
theorem d_Model_commit_65 : decode b_Model_commit 65 = .ok (.aload_n 0, 1) := by decide +kernel
theorem d_Model_commit_66 : decode b_Model_commit 66 = .ok (.iload_n 1, 1) := by decide +kernel
theorem d_Model_commit_67 : decode b_Model_commit 67 = .ok (.iload_n 2, 1) := by decide +kernel
theorem d_Model_commit_68 : decode b_Model_commit 68 = .ok (.invokevirtual 150, 3) := by decide +kernel
theorem d_Model_commit_71 : decode b_Model_commit 71 = .ok (.ifCond .eq 12, 3) := by decide +kernel
theorem d_Model_commit_74 : decode b_Model_commit 74 = .ok (.aload_n 0, 1) := by decide +kernel
theorem d_Model_commit_75 : decode b_Model_commit 75 = .ok (.getfield 53, 3) := by decide +kernel
theorem d_Model_commit_78 : decode b_Model_commit 78 = .ok (.iload_n 1, 1) := by decide +kernel
theorem d_Model_commit_79 : decode b_Model_commit 79 = .ok (.iconst 4, 1) := by decide +kernel
theorem d_Model_commit_80 : decode b_Model_commit 80 = .ok (.iastore, 1) := by decide +kernel
theorem d_Model_commit_81 : decode b_Model_commit 81 = .ok (.iconst 4, 1) := by decide +kernel
theorem d_Model_commit_82 : decode b_Model_commit 82 = .ok (.ireturn, 1) := by decide +kernel
theorem d_Model_commit_83 : decode b_Model_commit 83 = .ok (.iinc 2 1, 3) := by decide +kernel
theorem d_Model_commit_86 : decode b_Model_commit 86 = .ok (.goto (-26), 3) := by decide +kernel
theorem d_Model_commit_89 : decode b_Model_commit 89 = .ok (.aload_n 0, 1) := by decide +kernel
theorem d_Model_commit_90 : decode b_Model_commit 90 = .ok (.getfield 59, 3) := by decide +kernel
theorem d_Model_commit_93 : decode b_Model_commit 93 = .ok (.iload_n 1, 1) := by decide +kernel
theorem d_Model_commit_94 : decode b_Model_commit 94 = .ok (.iaload, 1) := by decide +kernel
theorem d_Model_commit_95 : decode b_Model_commit 95 = .ok (.ifCond .ne 12, 3) := by decide +kernel
theorem d_Model_commit_98 : decode b_Model_commit 98 = .ok (.aload_n 0, 1) := by decide +kernel
theorem d_Model_commit_99 : decode b_Model_commit 99 = .ok (.getfield 53, 3) := by decide +kernel
theorem d_Model_commit_102 : decode b_Model_commit 102 = .ok (.iload_n 1, 1) := by decide +kernel
theorem d_Model_commit_103 : decode b_Model_commit 103 = .ok (.iconst 3, 1) := by decide +kernel
theorem d_Model_commit_104 : decode b_Model_commit 104 = .ok (.iastore, 1) := by decide +kernel
theorem d_Model_commit_105 : decode b_Model_commit 105 = .ok (.iconst 3, 1) := by decide +kernel
theorem d_Model_commit_106 : decode b_Model_commit 106 = .ok (.ireturn, 1) := by decide +kernel
theorem d_Model_commit_107 : decode b_Model_commit 107 = .ok (.aload_n 0, 1) := by decide +kernel
theorem d_Model_commit_108 : decode b_Model_commit 108 = .ok (.iload_n 1, 1) := by decide +kernel
theorem d_Model_commit_109 : decode b_Model_commit 109 = .ok (.invokevirtual 162, 3) := by decide +kernel
theorem d_Model_commit_112 : decode b_Model_commit 112 = .ok (.istore_n 2, 1) := by decide +kernel
theorem d_Model_commit_113 : decode b_Model_commit 113 = .ok (.iload_n 2, 1) := by decide +kernel
theorem d_Model_commit_114 : decode b_Model_commit 114 = .ok (.ifCond .ge 5, 3) := by decide +kernel
theorem d_Model_commit_117 : decode b_Model_commit 117 = .ok (.iload_n 2, 1) := by decide +kernel
theorem d_Model_commit_118 : decode b_Model_commit 118 = .ok (.ireturn, 1) := by decide +kernel
theorem d_Model_commit_119 : decode b_Model_commit 119 = .ok (.iconst 0, 1) := by decide +kernel
theorem d_Model_commit_120 : decode b_Model_commit 120 = .ok (.istore_n 3, 1) := by decide +kernel
theorem d_Model_commit_121 : decode b_Model_commit 121 = .ok (.iload_n 3, 1) := by decide +kernel
theorem d_Model_commit_122 : decode b_Model_commit 122 = .ok (.bipush 8, 2) := by decide +kernel
theorem d_Model_commit_124 : decode b_Model_commit 124 = .ok (.if_icmp .ge 35, 3) := by decide +kernel
theorem d_Model_commit_127 : decode b_Model_commit 127 = .ok (.aload_n 0, 1) := by decide +kernel
theorem d_Model_commit_128 : decode b_Model_commit 128 = .ok (.getfield 59, 3) := by decide +kernel
theorem d_Model_commit_131 : decode b_Model_commit 131 = .ok (.iload_n 1, 1) := by decide +kernel
theorem d_Model_commit_132 : decode b_Model_commit 132 = .ok (.iaload, 1) := by decide +kernel
theorem d_Model_commit_133 : decode b_Model_commit 133 = .ok (.iload_n 3, 1) := by decide +kernel
theorem d_Model_commit_134 : decode b_Model_commit 134 = .ok (.ishr, 1) := by decide +kernel
theorem d_Model_commit_135 : decode b_Model_commit 135 = .ok (.iconst 1, 1) := by decide +kernel
theorem d_Model_commit_136 : decode b_Model_commit 136 = .ok (.iand, 1) := by decide +kernel
theorem d_Model_commit_137 : decode b_Model_commit 137 = .ok (.iconst 1, 1) := by decide +kernel
theorem d_Model_commit_138 : decode b_Model_commit 138 = .ok (.if_icmp .ne 15, 3) := by decide +kernel
theorem d_Model_commit_141 : decode b_Model_commit 141 = .ok (.aload_n 0, 1) := by decide +kernel
theorem d_Model_commit_142 : decode b_Model_commit 142 = .ok (.iload_n 1, 1) := by decide +kernel
theorem d_Model_commit_143 : decode b_Model_commit 143 = .ok (.iload_n 3, 1) := by decide +kernel
theorem d_Model_commit_144 : decode b_Model_commit 144 = .ok (.invokevirtual 165, 3) := by decide +kernel
theorem d_Model_commit_147 : decode b_Model_commit 147 = .ok (.ifCond .eq 6, 3) := by decide +kernel
theorem d_Model_commit_150 : decode b_Model_commit 150 = .ok (.bipush (-4), 2) := by decide +kernel
theorem d_Model_commit_152 : decode b_Model_commit 152 = .ok (.ireturn, 1) := by decide +kernel
theorem d_Model_commit_153 : decode b_Model_commit 153 = .ok (.iinc 3 1, 3) := by decide +kernel
theorem d_Model_commit_156 : decode b_Model_commit 156 = .ok (.goto (-35), 3) := by decide +kernel
theorem d_Model_commit_159 : decode b_Model_commit 159 = .ok (.iconst 0, 1) := by decide +kernel
theorem d_Model_commit_160 : decode b_Model_commit 160 = .ok (.istore_n 3, 1) := by decide +kernel
theorem d_Model_commit_161 : decode b_Model_commit 161 = .ok (.iload_n 3, 1) := by decide +kernel
theorem d_Model_commit_162 : decode b_Model_commit 162 = .ok (.aload_n 0, 1) := by decide +kernel
theorem d_Model_commit_163 : decode b_Model_commit 163 = .ok (.getfield 135, 3) := by decide +kernel
theorem d_Model_commit_166 : decode b_Model_commit 166 = .ok (.if_icmp .ge 39, 3) := by decide +kernel
theorem d_Model_commit_169 : decode b_Model_commit 169 = .ok (.iload_n 3, 1) := by decide +kernel
theorem d_Model_commit_170 : decode b_Model_commit 170 = .ok (.iload_n 1, 1) := by decide +kernel
theorem d_Model_commit_171 : decode b_Model_commit 171 = .ok (.if_icmp .eq 28, 3) := by decide +kernel
theorem d_Model_commit_174 : decode b_Model_commit 174 = .ok (.aload_n 0, 1) := by decide +kernel
theorem d_Model_commit_175 : decode b_Model_commit 175 = .ok (.getfield 53, 3) := by decide +kernel
theorem d_Model_commit_178 : decode b_Model_commit 178 = .ok (.iload_n 3, 1) := by decide +kernel
theorem d_Model_commit_179 : decode b_Model_commit 179 = .ok (.iaload, 1) := by decide +kernel
theorem d_Model_commit_180 : decode b_Model_commit 180 = .ok (.ifCond .ne 19, 3) := by decide +kernel
theorem d_Model_commit_183 : decode b_Model_commit 183 = .ok (.aload_n 0, 1) := by decide +kernel
theorem d_Model_commit_184 : decode b_Model_commit 184 = .ok (.iload_n 3, 1) := by decide +kernel
theorem d_Model_commit_185 : decode b_Model_commit 185 = .ok (.iload_n 1, 1) := by decide +kernel
theorem d_Model_commit_186 : decode b_Model_commit 186 = .ok (.invokevirtual 168, 3) := by decide +kernel
theorem d_Model_commit_189 : decode b_Model_commit 189 = .ok (.ifCond .eq 10, 3) := by decide +kernel
theorem d_Model_commit_192 : decode b_Model_commit 192 = .ok (.aload_n 0, 1) := by decide +kernel
theorem d_Model_commit_193 : decode b_Model_commit 193 = .ok (.getfield 53, 3) := by decide +kernel
theorem d_Model_commit_196 : decode b_Model_commit 196 = .ok (.iload_n 3, 1) := by decide +kernel
theorem d_Model_commit_197 : decode b_Model_commit 197 = .ok (.iconst 4, 1) := by decide +kernel
theorem d_Model_commit_198 : decode b_Model_commit 198 = .ok (.iastore, 1) := by decide +kernel
theorem d_Model_commit_199 : decode b_Model_commit 199 = .ok (.iinc 3 1, 3) := by decide +kernel
theorem d_Model_commit_202 : decode b_Model_commit 202 = .ok (.goto (-41), 3) := by decide +kernel
theorem d_Model_commit_205 : decode b_Model_commit 205 = .ok (.aload_n 0, 1) := by decide +kernel
theorem d_Model_commit_206 : decode b_Model_commit 206 = .ok (.iload_n 1, 1) := by decide +kernel
theorem d_Model_commit_207 : decode b_Model_commit 207 = .ok (.iconst 0, 1) := by decide +kernel
theorem d_Model_commit_208 : decode b_Model_commit 208 = .ok (.invokevirtual 159, 3) := by decide +kernel
theorem d_Model_commit_211 : decode b_Model_commit 211 = .ok (.ifCond .eq 16, 3) := by decide +kernel
theorem d_Model_commit_214 : decode b_Model_commit 214 = .ok (.aload_n 0, 1) := by decide +kernel
theorem d_Model_commit_215 : decode b_Model_commit 215 = .ok (.iload_n 1, 1) := by decide +kernel
theorem d_Model_commit_216 : decode b_Model_commit 216 = .ok (.iconst 1, 1) := by decide +kernel
theorem d_Model_commit_217 : decode b_Model_commit 217 = .ok (.invokevirtual 159, 3) := by decide +kernel
theorem d_Model_commit_220 : decode b_Model_commit 220 = .ok (.ifCond .eq 7, 3) := by decide +kernel
theorem d_Model_commit_223 : decode b_Model_commit 223 = .ok (.iconst 1, 1) := by decide +kernel
theorem d_Model_commit_224 : decode b_Model_commit 224 = .ok (.goto 4, 3) := by decide +kernel
theorem d_Model_commit_227 : decode b_Model_commit 227 = .ok (.iconst 0, 1) := by decide +kernel
theorem d_Model_commit_228 : decode b_Model_commit 228 = .ok (.istore_n 3, 1) := by decide +kernel
theorem d_Model_commit_229 : decode b_Model_commit 229 = .ok (.iconst 0, 1) := by decide +kernel
theorem d_Model_commit_230 : decode b_Model_commit 230 = .ok (.istore 4, 2) := by decide +kernel
theorem d_Model_commit_232 : decode b_Model_commit 232 = .ok (.iload 4, 2) := by decide +kernel
theorem d_Model_commit_234 : decode b_Model_commit 234 = .ok (.iconst 2, 1) := by decide +kernel
theorem d_Model_commit_235 : decode b_Model_commit 235 = .ok (.if_icmp .ge 50, 3) := by decide +kernel
theorem d_Model_commit_238 : decode b_Model_commit 238 = .ok (.aload_n 0, 1) := by decide +kernel
theorem d_Model_commit_239 : decode b_Model_commit 239 = .ok (.iload_n 1, 1) := by decide +kernel
theorem d_Model_commit_240 : decode b_Model_commit 240 = .ok (.iload 4, 2) := by decide +kernel
theorem d_Model_commit_242 : decode b_Model_commit 242 = .ok (.invokevirtual 159, 3) := by decide +kernel
theorem d_Model_commit_245 : decode b_Model_commit 245 = .ok (.ifCond .eq 34, 3) := by decide +kernel
theorem d_Model_commit_248 : decode b_Model_commit 248 = .ok (.aload_n 0, 1) := by decide +kernel
theorem d_Model_commit_249 : decode b_Model_commit 249 = .ok (.iload 4, 2) := by decide +kernel
theorem d_Model_commit_251 : decode b_Model_commit 251 = .ok (.invokevirtual 93, 3) := by decide +kernel
theorem d_Model_commit_254 : decode b_Model_commit 254 = .ok (.istore 5, 2) := by decide +kernel
theorem d_Model_commit_256 : decode b_Model_commit 256 = .ok (.aload_n 0, 1) := by decide +kernel
theorem d_Model_commit_257 : decode b_Model_commit 257 = .ok (.iload 5, 2) := by decide +kernel
theorem d_Model_commit_259 : decode b_Model_commit 259 = .ok (.iload_n 3, 1) := by decide +kernel
theorem d_Model_commit_260 : decode b_Model_commit 260 = .ok (.ifCond .eq 7, 3) := by decide +kernel
theorem d_Model_commit_263 : decode b_Model_commit 263 = .ok (.iconst 1, 1) := by decide +kernel
theorem d_Model_commit_264 : decode b_Model_commit 264 = .ok (.goto 4, 3) := by decide +kernel
theorem d_Model_commit_267 : decode b_Model_commit 267 = .ok (.iconst 2, 1) := by decide +kernel
theorem d_Model_commit_268 : decode b_Model_commit 268 = .ok (.iload_n 1, 1) := by decide +kernel
theorem d_Model_commit_269 : decode b_Model_commit 269 = .ok (.iconst (-1), 1) := by decide +kernel
theorem d_Model_commit_270 : decode b_Model_commit 270 = .ok (.aload_n 0, 1) := by decide +kernel
theorem d_Model_commit_271 : decode b_Model_commit 271 = .ok (.iload 5, 2) := by decide +kernel
theorem d_Model_commit_273 : decode b_Model_commit 273 = .ok (.invokevirtual 118, 3) := by decide +kernel
theorem d_Model_commit_276 : decode b_Model_commit 276 = .ok (.invokevirtual 125, 3) := by decide +kernel
theorem d_Model_commit_279 : decode b_Model_commit 279 = .ok (.iinc 4 1, 3) := by decide +kernel
theorem d_Model_commit_282 : decode b_Model_commit 282 = .ok (.goto (-50), 3) := by decide +kernel
theorem d_Model_commit_285 : decode b_Model_commit 285 = .ok (.aload_n 0, 1) := by decide +kernel
theorem d_Model_commit_286 : decode b_Model_commit 286 = .ok (.getfield 53, 3) := by decide +kernel
theorem d_Model_commit_289 : decode b_Model_commit 289 = .ok (.iload_n 1, 1) := by decide +kernel
theorem d_Model_commit_290 : decode b_Model_commit 290 = .ok (.iload_n 3, 1) := by decide +kernel
theorem d_Model_commit_291 : decode b_Model_commit 291 = .ok (.ifCond .eq 7, 3) := by decide +kernel
theorem d_Model_commit_294 : decode b_Model_commit 294 = .ok (.iconst 1, 1) := by decide +kernel
theorem d_Model_commit_295 : decode b_Model_commit 295 = .ok (.goto 4, 3) := by decide +kernel
theorem d_Model_commit_298 : decode b_Model_commit 298 = .ok (.iconst 2, 1) := by decide +kernel
theorem d_Model_commit_299 : decode b_Model_commit 299 = .ok (.iastore, 1) := by decide +kernel
theorem d_Model_commit_300 : decode b_Model_commit 300 = .ok (.aload_n 0, 1) := by decide +kernel
theorem d_Model_commit_301 : decode b_Model_commit 301 = .ok (.getfield 53, 3) := by decide +kernel
theorem d_Model_commit_304 : decode b_Model_commit 304 = .ok (.iload_n 1, 1) := by decide +kernel
theorem d_Model_commit_305 : decode b_Model_commit 305 = .ok (.iaload, 1) := by decide +kernel
theorem d_Model_commit_306 : decode b_Model_commit 306 = .ok (.ireturn, 1) := by decide +kernel
def B_Model_commit_52 (R : Nat → Nat → Nat) (k27 : Nat → Int32 → Int32 → St → Option (Int32 × St)) (a0 : Nat) (x1 : Int32) (x2 : Int32) (I : St) : Option (Int32 × St) := k27 a0 x1 (x2 + 1) I
set_option maxHeartbeats 4000000 in
set_option maxRecDepth 100000 in
theorem b_Model_commit_52 {p : Program} {l : Launch} {e : Env} {s : State} {m : MethodId} {args : Array Value} {below : List Frame} {meth : Method} {c : Code} {g : Sg} {R : Nat → Nat → Nat} {J : St} {v : Int32} (cx : Cx p s m args meth c g R R_Model b_Model_commit 6 (some .int)) {k27 : Nat → Int32 → Int32 → St → Option (Int32 × St)} (hk27 : ∀ (a0 : Nat) (x1 : Int32) (x2 : Int32) (I : St) (H : Heap) (locs : List Loc) (ls : Array Slot), okA g 5 0 a0 → k27 a0 x1 x2 I = some (v, J) → wW g R I H → va_S (· ∈ g.L) s.heap H locs → lv_has ls 6 [(0, .ref a0), (1, .int x1), (2, .int x2)] → W p l e { frames := 6, cells := 0, slots := 0, locals := 136 } s m args below meth c H locs 0 0 (MQ below (Qi g R v J) args s 0 0 (· ∈ g.L)) (F0 m 27 ls [])) : ∀ (a0 : Nat) (x1 : Int32) (x2 : Int32) (I : St) (H : Heap) (locs : List Loc) (ls : Array Slot), okA g 5 0 a0 → B_Model_commit_52 R k27 a0 x1 x2 I = some (v, J) → wW g R I H → va_S (· ∈ g.L) s.heap H locs → lv_has ls 6 [(0, .ref a0), (1, .int x1), (2, .int x2)] → W p l e { frames := 6, cells := 0, slots := 0, locals := 136 } s m args below meth c H locs 0 0 (MQ below (Qi g R v J) args s 0 0 (· ∈ g.L)) (F0 m 52 ls []) := by
  have ⟨hx, hb, hml, hr, hlk, hown, hall, hT, hK⟩ := cx
  intro a0 x1 x2 I H locs ls o0 h hP hS hl
  unfold B_Model_commit_52 at h
  refine lv_iinc (k := 2) (v := (x2 + 1)) (lv' := [(2, .int (x2 + 1)), (0, .ref a0), (1, .int x1)]) hx hb d_Model_commit_52 hl rfl (by rw [show Int32.ofInt 1 = (1 : Int32) from by decide]) (Nat.le_of_ble_eq_true rfl) rfl (fun ls hl => ?_)
  refine lv_goto hx hb d_Model_commit_55 rfl ?_
  exact hk27 _ _ _ _ _ _ _ o0 h hP hS (lv_sub hl [1, 2, 0] rfl)
def B_Model_commit_153 (R : Nat → Nat → Nat) (k121 : Nat → Int32 → Int32 → St → Option (Int32 × St)) (a0 : Nat) (x1 : Int32) (x3 : Int32) (I : St) : Option (Int32 × St) := k121 a0 x1 (x3 + 1) I
set_option maxHeartbeats 4000000 in
set_option maxRecDepth 100000 in
theorem b_Model_commit_153 {p : Program} {l : Launch} {e : Env} {s : State} {m : MethodId} {args : Array Value} {below : List Frame} {meth : Method} {c : Code} {g : Sg} {R : Nat → Nat → Nat} {J : St} {v : Int32} (cx : Cx p s m args meth c g R R_Model b_Model_commit 6 (some .int)) {k121 : Nat → Int32 → Int32 → St → Option (Int32 × St)} (hk121 : ∀ (a0 : Nat) (x1 : Int32) (x3 : Int32) (I : St) (H : Heap) (locs : List Loc) (ls : Array Slot), okA g 5 0 a0 → k121 a0 x1 x3 I = some (v, J) → wW g R I H → va_S (· ∈ g.L) s.heap H locs → lv_has ls 6 [(0, .ref a0), (1, .int x1), (3, .int x3)] → W p l e { frames := 6, cells := 0, slots := 0, locals := 136 } s m args below meth c H locs 0 0 (MQ below (Qi g R v J) args s 0 0 (· ∈ g.L)) (F0 m 121 ls [])) : ∀ (a0 : Nat) (x1 : Int32) (x3 : Int32) (I : St) (H : Heap) (locs : List Loc) (ls : Array Slot), okA g 5 0 a0 → B_Model_commit_153 R k121 a0 x1 x3 I = some (v, J) → wW g R I H → va_S (· ∈ g.L) s.heap H locs → lv_has ls 6 [(0, .ref a0), (1, .int x1), (3, .int x3)] → W p l e { frames := 6, cells := 0, slots := 0, locals := 136 } s m args below meth c H locs 0 0 (MQ below (Qi g R v J) args s 0 0 (· ∈ g.L)) (F0 m 153 ls []) := by
  have ⟨hx, hb, hml, hr, hlk, hown, hall, hT, hK⟩ := cx
  intro a0 x1 x3 I H locs ls o0 h hP hS hl
  unfold B_Model_commit_153 at h
  refine lv_iinc (k := 2) (v := (x3 + 1)) (lv' := [(3, .int (x3 + 1)), (0, .ref a0), (1, .int x1)]) hx hb d_Model_commit_153 hl rfl (by rw [show Int32.ofInt 1 = (1 : Int32) from by decide]) (Nat.le_of_ble_eq_true rfl) rfl (fun ls hl => ?_)
  refine lv_goto hx hb d_Model_commit_156 rfl ?_
  exact hk121 _ _ _ _ _ _ _ o0 h hP hS (lv_sub hl [1, 2, 0] rfl)
def B_Model_commit_199 (R : Nat → Nat → Nat) (k161 : Nat → Int32 → Int32 → St → Option (Int32 × St)) (a0 : Nat) (x1 : Int32) (x3 : Int32) (I : St) : Option (Int32 × St) := k161 a0 x1 (x3 + 1) I
set_option maxHeartbeats 4000000 in
set_option maxRecDepth 100000 in
theorem b_Model_commit_199 {p : Program} {l : Launch} {e : Env} {s : State} {m : MethodId} {args : Array Value} {below : List Frame} {meth : Method} {c : Code} {g : Sg} {R : Nat → Nat → Nat} {J : St} {v : Int32} (cx : Cx p s m args meth c g R R_Model b_Model_commit 6 (some .int)) {k161 : Nat → Int32 → Int32 → St → Option (Int32 × St)} (hk161 : ∀ (a0 : Nat) (x1 : Int32) (x3 : Int32) (I : St) (H : Heap) (locs : List Loc) (ls : Array Slot), okA g 5 0 a0 → k161 a0 x1 x3 I = some (v, J) → wW g R I H → va_S (· ∈ g.L) s.heap H locs → lv_has ls 6 [(0, .ref a0), (1, .int x1), (3, .int x3)] → W p l e { frames := 6, cells := 0, slots := 0, locals := 136 } s m args below meth c H locs 0 0 (MQ below (Qi g R v J) args s 0 0 (· ∈ g.L)) (F0 m 161 ls [])) : ∀ (a0 : Nat) (x1 : Int32) (x3 : Int32) (I : St) (H : Heap) (locs : List Loc) (ls : Array Slot), okA g 5 0 a0 → B_Model_commit_199 R k161 a0 x1 x3 I = some (v, J) → wW g R I H → va_S (· ∈ g.L) s.heap H locs → lv_has ls 6 [(0, .ref a0), (1, .int x1), (3, .int x3)] → W p l e { frames := 6, cells := 0, slots := 0, locals := 136 } s m args below meth c H locs 0 0 (MQ below (Qi g R v J) args s 0 0 (· ∈ g.L)) (F0 m 199 ls []) := by
  have ⟨hx, hb, hml, hr, hlk, hown, hall, hT, hK⟩ := cx
  intro a0 x1 x3 I H locs ls o0 h hP hS hl
  unfold B_Model_commit_199 at h
  refine lv_iinc (k := 2) (v := (x3 + 1)) (lv' := [(3, .int (x3 + 1)), (0, .ref a0), (1, .int x1)]) hx hb d_Model_commit_199 hl rfl (by rw [show Int32.ofInt 1 = (1 : Int32) from by decide]) (Nat.le_of_ble_eq_true rfl) rfl (fun ls hl => ?_)
  refine lv_goto hx hb d_Model_commit_202 rfl ?_
  exact hk161 _ _ _ _ _ _ _ o0 h hP hS (lv_sub hl [1, 2, 0] rfl)
def B_Model_commit_279 (R : Nat → Nat → Nat) (k232 : Nat → Int32 → Int32 → Int32 → St → Option (Int32 × St)) (a0 : Nat) (x1 : Int32) (x3 : Int32) (x4 : Int32) (I : St) : Option (Int32 × St) := k232 a0 x1 x3 (x4 + 1) I
set_option maxHeartbeats 4000000 in
set_option maxRecDepth 100000 in
theorem b_Model_commit_279 {p : Program} {l : Launch} {e : Env} {s : State} {m : MethodId} {args : Array Value} {below : List Frame} {meth : Method} {c : Code} {g : Sg} {R : Nat → Nat → Nat} {J : St} {v : Int32} (cx : Cx p s m args meth c g R R_Model b_Model_commit 6 (some .int)) {k232 : Nat → Int32 → Int32 → Int32 → St → Option (Int32 × St)} (hk232 : ∀ (a0 : Nat) (x1 : Int32) (x3 : Int32) (x4 : Int32) (I : St) (H : Heap) (locs : List Loc) (ls : Array Slot), okA g 5 0 a0 → k232 a0 x1 x3 x4 I = some (v, J) → wW g R I H → va_S (· ∈ g.L) s.heap H locs → lv_has ls 6 [(0, .ref a0), (1, .int x1), (3, .int x3), (4, .int x4)] → W p l e { frames := 6, cells := 0, slots := 0, locals := 136 } s m args below meth c H locs 0 0 (MQ below (Qi g R v J) args s 0 0 (· ∈ g.L)) (F0 m 232 ls [])) : ∀ (a0 : Nat) (x1 : Int32) (x3 : Int32) (x4 : Int32) (I : St) (H : Heap) (locs : List Loc) (ls : Array Slot), okA g 5 0 a0 → B_Model_commit_279 R k232 a0 x1 x3 x4 I = some (v, J) → wW g R I H → va_S (· ∈ g.L) s.heap H locs → lv_has ls 6 [(0, .ref a0), (1, .int x1), (3, .int x3), (4, .int x4)] → W p l e { frames := 6, cells := 0, slots := 0, locals := 136 } s m args below meth c H locs 0 0 (MQ below (Qi g R v J) args s 0 0 (· ∈ g.L)) (F0 m 279 ls []) := by
  have ⟨hx, hb, hml, hr, hlk, hown, hall, hT, hK⟩ := cx
  intro a0 x1 x3 x4 I H locs ls o0 h hP hS hl
  unfold B_Model_commit_279 at h
  refine lv_iinc (k := 3) (v := (x4 + 1)) (lv' := [(4, .int (x4 + 1)), (0, .ref a0), (1, .int x1), (3, .int x3)]) hx hb d_Model_commit_279 hl rfl (by rw [show Int32.ofInt 1 = (1 : Int32) from by decide]) (Nat.le_of_ble_eq_true rfl) rfl (fun ls hl => ?_)
  refine lv_goto hx hb d_Model_commit_282 rfl ?_
  exact hk232 _ _ _ _ _ _ _ _ o0 h hP hS (lv_sub hl [1, 2, 3, 0] rfl)
def B_Model_commit_268 (R : Nat → Nat → Nat) (k232 : Nat → Int32 → Int32 → Int32 → St → Option (Int32 × St)) (a0 : Nat) (x1 : Int32) (x3 : Int32) (x4 : Int32) (x5 : Int32) (u0 : Nat) (t1 : Int32) (t2 : Int32) (I : St) : Option (Int32 × St) := (ob (F_Model_next R a0 x5 I) (fun v273 => (ob (F_Model_put R u0 t1 t2 x1 (-1 : Int32) v273 I) (fun I276 => B_Model_commit_279 R k232 a0 x1 x3 x4 I276))))
set_option maxHeartbeats 4000000 in
set_option maxRecDepth 100000 in
theorem b_Model_commit_268 {p : Program} {l : Launch} {e : Env} {s : State} {m : MethodId} {args : Array Value} {below : List Frame} {meth : Method} {c : Code} {g : Sg} {R : Nat → Nat → Nat} {J : St} {v : Int32} (cx : Cx p s m args meth c g R R_Model b_Model_commit 6 (some .int)) {k232 : Nat → Int32 → Int32 → Int32 → St → Option (Int32 × St)} (hk232 : ∀ (a0 : Nat) (x1 : Int32) (x3 : Int32) (x4 : Int32) (I : St) (H : Heap) (locs : List Loc) (ls : Array Slot), okA g 5 0 a0 → k232 a0 x1 x3 x4 I = some (v, J) → wW g R I H → va_S (· ∈ g.L) s.heap H locs → lv_has ls 6 [(0, .ref a0), (1, .int x1), (3, .int x3), (4, .int x4)] → W p l e { frames := 6, cells := 0, slots := 0, locals := 136 } s m args below meth c H locs 0 0 (MQ below (Qi g R v J) args s 0 0 (· ∈ g.L)) (F0 m 232 ls [])) : ∀ (a0 : Nat) (x1 : Int32) (x3 : Int32) (x4 : Int32) (x5 : Int32) (u0 : Nat) (t1 : Int32) (t2 : Int32) (I : St) (H : Heap) (locs : List Loc) (ls : Array Slot), okA g 5 0 a0 → okA g 5 0 u0 → B_Model_commit_268 R k232 a0 x1 x3 x4 x5 u0 t1 t2 I = some (v, J) → wW g R I H → va_S (· ∈ g.L) s.heap H locs → lv_has ls 6 [(0, .ref a0), (1, .int x1), (3, .int x3), (4, .int x4), (5, .int x5)] → W p l e { frames := 6, cells := 0, slots := 0, locals := 136 } s m args below meth c H locs 0 0 (MQ below (Qi g R v J) args s 0 0 (· ∈ g.L)) (F0 m 268 ls [.int t2, .int t1, .ref u0]) := by
  have ⟨hx, hb, hml, hr, hlk, hown, hall, hT, hK⟩ := cx
  intro a0 x1 x3 x4 x5 u0 t1 t2 I H locs ls o0 q0 h hP hS hl
  unfold B_Model_commit_268 at h
  refine lv_iload_n hx hb d_Model_commit_268 rfl (lv_at hl 1 rfl) ?_
  refine lv_iconst (v := (-1)) hx hb d_Model_commit_269 (by decide) ?_
  refine lv_aload_n hx hb d_Model_commit_270 rfl (lv_at hl 0 rfl) ?_
  refine lv_iload hx hb d_Model_commit_271 (lv_at hl 4 rfl) ?_
  obtain ⟨v273, e273, h⟩ := ob_el h
  refine gg_Vi (As := [.int x5]) (rest := [.int (-1 : Int32), .int x1, .int t2, .int t1, .ref u0]) (ci := 5) (C := R_Model) (T := F_Model) (N := 23) ⟨hx, hb, hml, hown, hall⟩ (c_Model_next l hT o0 e273) (cwV 1 hall (gV m_390 m_391 m_392 m_338 m_368) rfl rfl rfl (by decide +kernel) ⟨Nat.le_of_ble_eq_true rfl, Nat.le_of_ble_eq_true rfl⟩) hK hP hS o0.1 (wE_5 o0.2) rfl rfl hl.1 rfl (Nat.le_of_ble_eq_true rfl) d_Model_commit_273 (fun H locs hP hS => ?_)
  obtain ⟨I276, e276, h⟩ := ob_el h
  refine gg_Vv (As := [.int t1, .int t2, .int x1, .int (-1 : Int32), .int v273]) (rest := []) (ci := 5) (C := R_Model) (T := F_Model) (N := 23) ⟨hx, hb, hml, hown, hall⟩ (c_Model_put l hT q0 e276) (cwV 5 hall (gV m_396 m_397 m_398 m_338 m_371) rfl rfl rfl (by decide +kernel) ⟨Nat.le_of_ble_eq_true rfl, Nat.le_of_ble_eq_true rfl⟩) hK hP hS q0.1 (wE_5 q0.2) rfl rfl hl.1 rfl (Nat.le_of_ble_eq_true rfl) d_Model_commit_276 (fun H locs hP hS => ?_)
  exact b_Model_commit_279 cx hk232 _ _ _ _ _ _ _ _ o0 h hP hS (lv_sub hl [0, 1, 2, 3] rfl)
def B_Model_commit_299 (R : Nat → Nat → Nat) (a0 : Nat) (x1 : Int32) (u0 : Nat) (t1 : Int32) (t2 : Int32) (I : St) : Option (Int32 × St) := (chk t1 16 (ap (up2 I u0 t1.toNatClampNeg t2) (fun I299 => (chk x1 16 (some ((I299 (R a0 17) x1.toNatClampNeg), I299))))))
set_option maxHeartbeats 4000000 in
set_option maxRecDepth 100000 in
theorem b_Model_commit_299 {p : Program} {l : Launch} {e : Env} {s : State} {m : MethodId} {args : Array Value} {below : List Frame} {meth : Method} {c : Code} {g : Sg} {R : Nat → Nat → Nat} {J : St} {v : Int32} (cx : Cx p s m args meth c g R R_Model b_Model_commit 6 (some .int)) : ∀ (a0 : Nat) (x1 : Int32) (u0 : Nat) (t1 : Int32) (t2 : Int32) (I : St) (H : Heap) (locs : List Loc) (ls : Array Slot), okA g 5 0 a0 → okA g 6 16 u0 → B_Model_commit_299 R a0 x1 u0 t1 t2 I = some (v, J) → wW g R I H → va_S (· ∈ g.L) s.heap H locs → lv_has ls 6 [(0, .ref a0), (1, .int x1)] → W p l e { frames := 6, cells := 0, slots := 0, locals := 136 } s m args below meth c H locs 0 0 (MQ below (Qi g R v J) args s 0 0 (· ∈ g.L)) (F0 m 299 ls [.int t2, .int t1, .ref u0]) := by
  have ⟨hx, hb, hml, hr, hlk, hown, hall, hT, hK⟩ := cx
  intro a0 x1 u0 t1 t2 I H locs ls o0 q0 h hP hS hl
  unfold B_Model_commit_299 at h
  obtain ⟨hi299, h⟩ := chk_el h
  refine gg_iast hx hb hT.1 hK hP hS q0 hi299 d_Model_commit_299 (fun I299 H locs e299 hP hS => ?_)
  replace h := ap_el e299 h
  refine lv_aload_n hx hb d_Model_commit_300 rfl (lv_at hl 0 rfl) ?_
  refine gg_get (C := R_Model) (T := F_Model) (N := 23) (ci := 5) hx hb hall i_Model hown hK hP o0.1 (wE_5 o0.2) rfl 17 (by decide) (hall _ m_449) (fun _ h9 => h9) rfl d_Model_commit_301 ?_
  have o_301 : okA g 6 16 (R a0 17) := ty_Model_17 hT o0
  refine lv_iload_n hx hb d_Model_commit_304 rfl (lv_at hl 1 rfl) ?_
  obtain ⟨hi305, h⟩ := chk_el h
  refine gg_iald hx hb hK hP o_301 hi305 d_Model_commit_305 ?_
  obtain ⟨rfl, rfl⟩ := rt_el h
  exact gg_iret hx hb hr hlk hK hP hS d_Model_commit_306
def B_Model_commit_232 (R : Nat → Nat → Nat) : Nat → Nat → Int32 → Int32 → Int32 → St → Option (Int32 × St)
  | 0, _, _, _, _, _ => none
  | f + 1, a0, x1, x3, x4, I => (if (2 : Int32) ≤ x4 then (if x3 = 0 then B_Model_commit_299 R a0 x1 (R a0 17) x1 (2 : Int32) I else B_Model_commit_299 R a0 x1 (R a0 17) x1 (1 : Int32) I) else (ob (F_Model_touches R a0 x1 x4 I) (fun v242 => (if v242 = 0 then B_Model_commit_279 R (B_Model_commit_232 R f) a0 x1 x3 x4 I else (ob (F_Model_ready R a0 x4 I) (fun v251 => (if x3 = 0 then B_Model_commit_268 R (B_Model_commit_232 R f) a0 x1 x3 x4 v251 a0 v251 (2 : Int32) I else B_Model_commit_268 R (B_Model_commit_232 R f) a0 x1 x3 x4 v251 a0 v251 (1 : Int32) I)))))))
set_option maxHeartbeats 4000000 in
set_option maxRecDepth 100000 in
theorem b_Model_commit_232 {p : Program} {l : Launch} {e : Env} {s : State} {m : MethodId} {args : Array Value} {below : List Frame} {meth : Method} {c : Code} {g : Sg} {R : Nat → Nat → Nat} {J : St} {v : Int32} (cx : Cx p s m args meth c g R R_Model b_Model_commit 6 (some .int)) (f : Nat) : ∀ (a0 : Nat) (x1 : Int32) (x3 : Int32) (x4 : Int32) (I : St) (H : Heap) (locs : List Loc) (ls : Array Slot), okA g 5 0 a0 → B_Model_commit_232 R f a0 x1 x3 x4 I = some (v, J) → wW g R I H → va_S (· ∈ g.L) s.heap H locs → lv_has ls 6 [(0, .ref a0), (1, .int x1), (3, .int x3), (4, .int x4)] → W p l e { frames := 6, cells := 0, slots := 0, locals := 136 } s m args below meth c H locs 0 0 (MQ below (Qi g R v J) args s 0 0 (· ∈ g.L)) (F0 m 232 ls []) := by
  have ⟨hx, hb, hml, hr, hlk, hown, hall, hT, hK⟩ := cx
  induction f with
  | zero => intro a0 x1 x3 x4 I H locs ls o0 h; unfold B_Model_commit_232 at h; cases h
  | succ f ih =>
    intro a0 x1 x3 x4 I H locs ls o0 h hP hS hl
    unfold B_Model_commit_232 at h
    refine lv_iload hx hb d_Model_commit_232 (lv_at hl 3 rfl) ?_
    refine lv_iconst (v := 2) hx hb d_Model_commit_234 (by decide) ?_
    refine lv_icmp_ge hx hb d_Model_commit_235 rfl (fun hc => ?_) (fun hc => ?_)
    · replace h := i_pos hc h
      refine lv_aload_n hx hb d_Model_commit_285 rfl (lv_at hl 0 rfl) ?_
      refine gg_get (C := R_Model) (T := F_Model) (N := 23) (ci := 5) hx hb hall i_Model hown hK hP o0.1 (wE_5 o0.2) rfl 17 (by decide) (hall _ m_449) (fun _ h9 => h9) rfl d_Model_commit_286 ?_
      have o_286 : okA g 6 16 (R a0 17) := ty_Model_17 hT o0
      refine lv_iload_n hx hb d_Model_commit_289 rfl (lv_at hl 1 rfl) ?_
      refine lv_iload_n hx hb d_Model_commit_290 rfl (lv_at hl 2 rfl) ?_
      refine lv_if_eq hx hb d_Model_commit_291 rfl (fun hc => ?_) (fun hc => ?_)
      · replace h := i_pos hc h
        refine lv_iconst (v := 2) hx hb d_Model_commit_298 (by decide) ?_
        exact b_Model_commit_299 cx _ _ _ _ _ _ _ _ _ o0 o_286 h hP hS (lv_sub hl [0, 1] rfl)
      · replace h := i_neg hc h
        refine lv_iconst (v := 1) hx hb d_Model_commit_294 (by decide) ?_
        refine lv_goto hx hb d_Model_commit_295 rfl ?_
        exact b_Model_commit_299 cx _ _ _ _ _ _ _ _ _ o0 o_286 h hP hS (lv_sub hl [0, 1] rfl)
    · replace h := i_neg hc h
      refine lv_aload_n hx hb d_Model_commit_238 rfl (lv_at hl 0 rfl) ?_
      refine lv_iload_n hx hb d_Model_commit_239 rfl (lv_at hl 1 rfl) ?_
      refine lv_iload hx hb d_Model_commit_240 (lv_at hl 3 rfl) ?_
      obtain ⟨v242, e242, h⟩ := ob_el h
      refine gg_Vi (As := [.int x1, .int x4]) (rest := []) (ci := 5) (C := R_Model) (T := F_Model) (N := 23) ⟨hx, hb, hml, hown, hall⟩ (c_Model_touches l hT o0 e242) (cwV 2 hall (gV m_456 m_457 m_458 m_338 m_426) rfl rfl rfl (by decide +kernel) ⟨Nat.le_of_ble_eq_true rfl, Nat.le_of_ble_eq_true rfl⟩) hK hP hS o0.1 (wE_5 o0.2) rfl rfl hl.1 rfl (Nat.le_of_ble_eq_true rfl) d_Model_commit_242 (fun H locs hP hS => ?_)
      refine lv_if_eq hx hb d_Model_commit_245 rfl (fun hc => ?_) (fun hc => ?_)
      · replace h := i_pos hc h
        exact b_Model_commit_279 cx ih _ _ _ _ _ _ _ _ o0 h hP hS (lv_sub hl [0, 1, 2, 3] rfl)
      · replace h := i_neg hc h
        refine lv_aload_n hx hb d_Model_commit_248 rfl (lv_at hl 0 rfl) ?_
        refine lv_iload hx hb d_Model_commit_249 (lv_at hl 3 rfl) ?_
        obtain ⟨v251, e251, h⟩ := ob_el h
        refine gg_Vi (As := [.int x4]) (rest := []) (ci := 5) (C := R_Model) (T := F_Model) (N := 23) ⟨hx, hb, hml, hown, hall⟩ (c_Model_ready l hT o0 e251) (cwV 1 hall (gV m_360 m_361 m_362 m_338 m_359) rfl rfl rfl (by decide +kernel) ⟨Nat.le_of_ble_eq_true rfl, Nat.le_of_ble_eq_true rfl⟩) hK hP hS o0.1 (wE_5 o0.2) rfl rfl hl.1 rfl (Nat.le_of_ble_eq_true rfl) d_Model_commit_251 (fun H locs hP hS => ?_)
        refine lv_istore (lv' := [(5, .int v251), (0, .ref a0), (1, .int x1), (3, .int x3), (4, .int x4)]) hx hb d_Model_commit_254 hl (Nat.le_of_ble_eq_true rfl) rfl (fun ls hl => ?_)
        refine lv_aload_n hx hb d_Model_commit_256 rfl (lv_at hl 1 rfl) ?_
        refine lv_iload hx hb d_Model_commit_257 (lv_at hl 0 rfl) ?_
        refine lv_iload_n hx hb d_Model_commit_259 rfl (lv_at hl 3 rfl) ?_
        refine lv_if_eq hx hb d_Model_commit_260 rfl (fun hc => ?_) (fun hc => ?_)
        · replace h := i_pos hc h
          refine lv_iconst (v := 2) hx hb d_Model_commit_267 (by decide) ?_
          exact b_Model_commit_268 cx ih _ _ _ _ _ _ _ _ _ _ _ _ o0 o0 h hP hS (lv_sub hl [1, 2, 3, 4, 0] rfl)
        · replace h := i_neg hc h
          refine lv_iconst (v := 1) hx hb d_Model_commit_263 (by decide) ?_
          refine lv_goto hx hb d_Model_commit_264 rfl ?_
          exact b_Model_commit_268 cx ih _ _ _ _ _ _ _ _ _ _ _ _ o0 o0 h hP hS (lv_sub hl [1, 2, 3, 4, 0] rfl)
def B_Model_commit_228 (R : Nat → Nat → Nat) (a0 : Nat) (x1 : Int32) (t0 : Int32) (I : St) : Option (Int32 × St) := B_Model_commit_232 R 100 a0 x1 t0 (0 : Int32) I
set_option maxHeartbeats 4000000 in
set_option maxRecDepth 100000 in
theorem b_Model_commit_228 {p : Program} {l : Launch} {e : Env} {s : State} {m : MethodId} {args : Array Value} {below : List Frame} {meth : Method} {c : Code} {g : Sg} {R : Nat → Nat → Nat} {J : St} {v : Int32} (cx : Cx p s m args meth c g R R_Model b_Model_commit 6 (some .int)) : ∀ (a0 : Nat) (x1 : Int32) (t0 : Int32) (I : St) (H : Heap) (locs : List Loc) (ls : Array Slot), okA g 5 0 a0 → B_Model_commit_228 R a0 x1 t0 I = some (v, J) → wW g R I H → va_S (· ∈ g.L) s.heap H locs → lv_has ls 6 [(0, .ref a0), (1, .int x1)] → W p l e { frames := 6, cells := 0, slots := 0, locals := 136 } s m args below meth c H locs 0 0 (MQ below (Qi g R v J) args s 0 0 (· ∈ g.L)) (F0 m 228 ls [.int t0]) := by
  have ⟨hx, hb, hml, hr, hlk, hown, hall, hT, hK⟩ := cx
  intro a0 x1 t0 I H locs ls o0 h hP hS hl
  unfold B_Model_commit_228 at h
  refine lv_istore_n (lv' := [(3, .int t0), (0, .ref a0), (1, .int x1)]) hx hb d_Model_commit_228 rfl hl (Nat.le_of_ble_eq_true rfl) rfl (fun ls hl => ?_)
  refine lv_iconst (v := 0) hx hb d_Model_commit_229 (by decide) ?_
  refine lv_istore (lv' := [(4, .int (0 : Int32)), (3, .int t0), (0, .ref a0), (1, .int x1)]) hx hb d_Model_commit_230 hl (Nat.le_of_ble_eq_true rfl) rfl (fun ls hl => ?_)
  exact b_Model_commit_232 cx 100 _ _ _ _ _ _ _ _ o0 h hP hS (lv_sub hl [2, 3, 1, 0] rfl)
def B_Model_commit_227 (R : Nat → Nat → Nat) (a0 : Nat) (x1 : Int32) (I : St) : Option (Int32 × St) := B_Model_commit_228 R a0 x1 (0 : Int32) I
set_option maxHeartbeats 4000000 in
set_option maxRecDepth 100000 in
theorem b_Model_commit_227 {p : Program} {l : Launch} {e : Env} {s : State} {m : MethodId} {args : Array Value} {below : List Frame} {meth : Method} {c : Code} {g : Sg} {R : Nat → Nat → Nat} {J : St} {v : Int32} (cx : Cx p s m args meth c g R R_Model b_Model_commit 6 (some .int)) : ∀ (a0 : Nat) (x1 : Int32) (I : St) (H : Heap) (locs : List Loc) (ls : Array Slot), okA g 5 0 a0 → B_Model_commit_227 R a0 x1 I = some (v, J) → wW g R I H → va_S (· ∈ g.L) s.heap H locs → lv_has ls 6 [(0, .ref a0), (1, .int x1)] → W p l e { frames := 6, cells := 0, slots := 0, locals := 136 } s m args below meth c H locs 0 0 (MQ below (Qi g R v J) args s 0 0 (· ∈ g.L)) (F0 m 227 ls []) := by
  have ⟨hx, hb, hml, hr, hlk, hown, hall, hT, hK⟩ := cx
  intro a0 x1 I H locs ls o0 h hP hS hl
  unfold B_Model_commit_227 at h
  refine lv_iconst (v := 0) hx hb d_Model_commit_227 (by decide) ?_
  exact b_Model_commit_228 cx _ _ _ _ _ _ _ o0 h hP hS (lv_sub hl [0, 1] rfl)
def B_Model_commit_161 (R : Nat → Nat → Nat) : Nat → Nat → Int32 → Int32 → St → Option (Int32 × St)
  | 0, _, _, _, _ => none
  | f + 1, a0, x1, x3, I => (if (I a0 16) ≤ x3 then (ob (F_Model_touches R a0 x1 (0 : Int32) I) (fun v208 => (if v208 = 0 then B_Model_commit_227 R a0 x1 I else (ob (F_Model_touches R a0 x1 (1 : Int32) I) (fun v217 => (if v217 = 0 then B_Model_commit_227 R a0 x1 I else B_Model_commit_228 R a0 x1 (1 : Int32) I)))))) else (if x3 = x1 then B_Model_commit_199 R (B_Model_commit_161 R f) a0 x1 x3 I else (chk x3 16 ((if (I (R a0 17) x3.toNatClampNeg) = 0 then (ob (F_Model_clashes R a0 x3 x1 I) (fun v186 => (if v186 = 0 then B_Model_commit_199 R (B_Model_commit_161 R f) a0 x1 x3 I else (chk x3 16 (ap (up2 I (R a0 17) x3.toNatClampNeg (4 : Int32)) (fun I198 => B_Model_commit_199 R (B_Model_commit_161 R f) a0 x1 x3 I198)))))) else B_Model_commit_199 R (B_Model_commit_161 R f) a0 x1 x3 I)))))
set_option maxHeartbeats 4000000 in
set_option maxRecDepth 100000 in
theorem b_Model_commit_161 {p : Program} {l : Launch} {e : Env} {s : State} {m : MethodId} {args : Array Value} {below : List Frame} {meth : Method} {c : Code} {g : Sg} {R : Nat → Nat → Nat} {J : St} {v : Int32} (cx : Cx p s m args meth c g R R_Model b_Model_commit 6 (some .int)) (f : Nat) : ∀ (a0 : Nat) (x1 : Int32) (x3 : Int32) (I : St) (H : Heap) (locs : List Loc) (ls : Array Slot), okA g 5 0 a0 → B_Model_commit_161 R f a0 x1 x3 I = some (v, J) → wW g R I H → va_S (· ∈ g.L) s.heap H locs → lv_has ls 6 [(0, .ref a0), (1, .int x1), (3, .int x3)] → W p l e { frames := 6, cells := 0, slots := 0, locals := 136 } s m args below meth c H locs 0 0 (MQ below (Qi g R v J) args s 0 0 (· ∈ g.L)) (F0 m 161 ls []) := by
  have ⟨hx, hb, hml, hr, hlk, hown, hall, hT, hK⟩ := cx
  induction f with
  | zero => intro a0 x1 x3 I H locs ls o0 h; unfold B_Model_commit_161 at h; cases h
  | succ f ih =>
    intro a0 x1 x3 I H locs ls o0 h hP hS hl
    unfold B_Model_commit_161 at h
    refine lv_iload_n hx hb d_Model_commit_161 rfl (lv_at hl 2 rfl) ?_
    refine lv_aload_n hx hb d_Model_commit_162 rfl (lv_at hl 0 rfl) ?_
    refine gg_get (C := R_Model) (T := F_Model) (N := 23) (ci := 5) hx hb hall i_Model hown hK hP o0.1 (wE_5 o0.2) rfl 16 (by decide) (hall _ m_419) (fun _ h9 => h9) rfl d_Model_commit_163 ?_
    refine lv_icmp_ge hx hb d_Model_commit_166 rfl (fun hc => ?_) (fun hc => ?_)
    · replace h := i_pos hc h
      refine lv_aload_n hx hb d_Model_commit_205 rfl (lv_at hl 0 rfl) ?_
      refine lv_iload_n hx hb d_Model_commit_206 rfl (lv_at hl 1 rfl) ?_
      refine lv_iconst (v := 0) hx hb d_Model_commit_207 (by decide) ?_
      obtain ⟨v208, e208, h⟩ := ob_el h
      refine gg_Vi (As := [.int x1, .int (0 : Int32)]) (rest := []) (ci := 5) (C := R_Model) (T := F_Model) (N := 23) ⟨hx, hb, hml, hown, hall⟩ (c_Model_touches l hT o0 e208) (cwV 2 hall (gV m_456 m_457 m_458 m_338 m_426) rfl rfl rfl (by decide +kernel) ⟨Nat.le_of_ble_eq_true rfl, Nat.le_of_ble_eq_true rfl⟩) hK hP hS o0.1 (wE_5 o0.2) rfl rfl hl.1 rfl (Nat.le_of_ble_eq_true rfl) d_Model_commit_208 (fun H locs hP hS => ?_)
      refine lv_if_eq hx hb d_Model_commit_211 rfl (fun hc => ?_) (fun hc => ?_)
      · replace h := i_pos hc h
        exact b_Model_commit_227 cx _ _ _ _ _ _ o0 h hP hS (lv_sub hl [0, 1] rfl)
      · replace h := i_neg hc h
        refine lv_aload_n hx hb d_Model_commit_214 rfl (lv_at hl 0 rfl) ?_
        refine lv_iload_n hx hb d_Model_commit_215 rfl (lv_at hl 1 rfl) ?_
        refine lv_iconst (v := 1) hx hb d_Model_commit_216 (by decide) ?_
        obtain ⟨v217, e217, h⟩ := ob_el h
        refine gg_Vi (As := [.int x1, .int (1 : Int32)]) (rest := []) (ci := 5) (C := R_Model) (T := F_Model) (N := 23) ⟨hx, hb, hml, hown, hall⟩ (c_Model_touches l hT o0 e217) (cwV 2 hall (gV m_456 m_457 m_458 m_338 m_426) rfl rfl rfl (by decide +kernel) ⟨Nat.le_of_ble_eq_true rfl, Nat.le_of_ble_eq_true rfl⟩) hK hP hS o0.1 (wE_5 o0.2) rfl rfl hl.1 rfl (Nat.le_of_ble_eq_true rfl) d_Model_commit_217 (fun H locs hP hS => ?_)
        refine lv_if_eq hx hb d_Model_commit_220 rfl (fun hc => ?_) (fun hc => ?_)
        · replace h := i_pos hc h
          exact b_Model_commit_227 cx _ _ _ _ _ _ o0 h hP hS (lv_sub hl [0, 1] rfl)
        · replace h := i_neg hc h
          refine lv_iconst (v := 1) hx hb d_Model_commit_223 (by decide) ?_
          refine lv_goto hx hb d_Model_commit_224 rfl ?_
          exact b_Model_commit_228 cx _ _ _ _ _ _ _ o0 h hP hS (lv_sub hl [0, 1] rfl)
    · replace h := i_neg hc h
      refine lv_iload_n hx hb d_Model_commit_169 rfl (lv_at hl 2 rfl) ?_
      refine lv_iload_n hx hb d_Model_commit_170 rfl (lv_at hl 1 rfl) ?_
      refine lv_icmp_eq hx hb d_Model_commit_171 rfl (fun hc => ?_) (fun hc => ?_)
      · replace h := i_pos hc h
        exact b_Model_commit_199 cx ih _ _ _ _ _ _ _ o0 h hP hS (lv_sub hl [0, 1, 2] rfl)
      · replace h := i_neg hc h
        refine lv_aload_n hx hb d_Model_commit_174 rfl (lv_at hl 0 rfl) ?_
        refine gg_get (C := R_Model) (T := F_Model) (N := 23) (ci := 5) hx hb hall i_Model hown hK hP o0.1 (wE_5 o0.2) rfl 17 (by decide) (hall _ m_449) (fun _ h9 => h9) rfl d_Model_commit_175 ?_
        have o_175 : okA g 6 16 (R a0 17) := ty_Model_17 hT o0
        refine lv_iload_n hx hb d_Model_commit_178 rfl (lv_at hl 2 rfl) ?_
        obtain ⟨hi179, h⟩ := chk_el h
        refine gg_iald hx hb hK hP o_175 hi179 d_Model_commit_179 ?_
        refine lv_if_ne hx hb d_Model_commit_180 rfl (fun hc => ?_) (fun hc => ?_)
        · replace h := i_neg hc h
          exact b_Model_commit_199 cx ih _ _ _ _ _ _ _ o0 h hP hS (lv_sub hl [0, 1, 2] rfl)
        · replace h := i_pos hc h
          refine lv_aload_n hx hb d_Model_commit_183 rfl (lv_at hl 0 rfl) ?_
          refine lv_iload_n hx hb d_Model_commit_184 rfl (lv_at hl 2 rfl) ?_
          refine lv_iload_n hx hb d_Model_commit_185 rfl (lv_at hl 1 rfl) ?_
          obtain ⟨v186, e186, h⟩ := ob_el h
          refine gg_Vi (As := [.int x3, .int x1]) (rest := []) (ci := 5) (C := R_Model) (T := F_Model) (N := 23) ⟨hx, hb, hml, hown, hall⟩ (c_Model_clashes l hT o0 e186) (cwV 2 hall (gV m_461 m_462 m_463 m_338 m_460) rfl rfl rfl (by decide +kernel) ⟨Nat.le_of_ble_eq_true rfl, Nat.le_of_ble_eq_true rfl⟩) hK hP hS o0.1 (wE_5 o0.2) rfl rfl hl.1 rfl (Nat.le_of_ble_eq_true rfl) d_Model_commit_186 (fun H locs hP hS => ?_)
          refine lv_if_eq hx hb d_Model_commit_189 rfl (fun hc => ?_) (fun hc => ?_)
          · replace h := i_pos hc h
            exact b_Model_commit_199 cx ih _ _ _ _ _ _ _ o0 h hP hS (lv_sub hl [0, 1, 2] rfl)
          · replace h := i_neg hc h
            refine lv_aload_n hx hb d_Model_commit_192 rfl (lv_at hl 0 rfl) ?_
            refine gg_get (C := R_Model) (T := F_Model) (N := 23) (ci := 5) hx hb hall i_Model hown hK hP o0.1 (wE_5 o0.2) rfl 17 (by decide) (hall _ m_449) (fun _ h9 => h9) rfl d_Model_commit_193 ?_
            have o_193 : okA g 6 16 (R a0 17) := ty_Model_17 hT o0
            refine lv_iload_n hx hb d_Model_commit_196 rfl (lv_at hl 2 rfl) ?_
            refine lv_iconst (v := 4) hx hb d_Model_commit_197 (by decide) ?_
            obtain ⟨hi198, h⟩ := chk_el h
            refine gg_iast hx hb hT.1 hK hP hS o_193 hi198 d_Model_commit_198 (fun I198 H locs e198 hP hS => ?_)
            replace h := ap_el e198 h
            exact b_Model_commit_199 cx ih _ _ _ _ _ _ _ o0 h hP hS (lv_sub hl [0, 1, 2] rfl)
def B_Model_commit_121 (R : Nat → Nat → Nat) : Nat → Nat → Int32 → Int32 → St → Option (Int32 × St)
  | 0, _, _, _, _ => none
  | f + 1, a0, x1, x3, I => (if (8 : Int32) ≤ x3 then B_Model_commit_161 R 100 a0 x1 (0 : Int32) I else (chk x1 16 ((if (((I (R a0 19) x1.toNatClampNeg) >>> (x3 &&& 31)) &&& (1 : Int32)) = (1 : Int32) then (ob (F_Model_waits R a0 x1 x3 I) (fun v144 => (if v144 = 0 then B_Model_commit_153 R (B_Model_commit_121 R f) a0 x1 x3 I else some ((-4 : Int32), I)))) else B_Model_commit_153 R (B_Model_commit_121 R f) a0 x1 x3 I))))
set_option maxHeartbeats 4000000 in
set_option maxRecDepth 100000 in
theorem b_Model_commit_121 {p : Program} {l : Launch} {e : Env} {s : State} {m : MethodId} {args : Array Value} {below : List Frame} {meth : Method} {c : Code} {g : Sg} {R : Nat → Nat → Nat} {J : St} {v : Int32} (cx : Cx p s m args meth c g R R_Model b_Model_commit 6 (some .int)) (f : Nat) : ∀ (a0 : Nat) (x1 : Int32) (x3 : Int32) (I : St) (H : Heap) (locs : List Loc) (ls : Array Slot), okA g 5 0 a0 → B_Model_commit_121 R f a0 x1 x3 I = some (v, J) → wW g R I H → va_S (· ∈ g.L) s.heap H locs → lv_has ls 6 [(0, .ref a0), (1, .int x1), (3, .int x3)] → W p l e { frames := 6, cells := 0, slots := 0, locals := 136 } s m args below meth c H locs 0 0 (MQ below (Qi g R v J) args s 0 0 (· ∈ g.L)) (F0 m 121 ls []) := by
  have ⟨hx, hb, hml, hr, hlk, hown, hall, hT, hK⟩ := cx
  induction f with
  | zero => intro a0 x1 x3 I H locs ls o0 h; unfold B_Model_commit_121 at h; cases h
  | succ f ih =>
    intro a0 x1 x3 I H locs ls o0 h hP hS hl
    unfold B_Model_commit_121 at h
    refine lv_iload_n hx hb d_Model_commit_121 rfl (lv_at hl 2 rfl) ?_
    refine lv_bipush (v := 8) hx hb d_Model_commit_122 (by decide) ?_
    refine lv_icmp_ge hx hb d_Model_commit_124 rfl (fun hc => ?_) (fun hc => ?_)
    · replace h := i_pos hc h
      refine lv_iconst (v := 0) hx hb d_Model_commit_159 (by decide) ?_
      refine lv_istore_n (lv' := [(3, .int (0 : Int32)), (0, .ref a0), (1, .int x1)]) hx hb d_Model_commit_160 rfl hl (Nat.le_of_ble_eq_true rfl) rfl (fun ls hl => ?_)
      exact b_Model_commit_161 cx 100 _ _ _ _ _ _ _ o0 h hP hS (lv_sub hl [1, 2, 0] rfl)
    · replace h := i_neg hc h
      refine lv_aload_n hx hb d_Model_commit_127 rfl (lv_at hl 0 rfl) ?_
      refine gg_get (C := R_Model) (T := F_Model) (N := 23) (ci := 5) hx hb hall i_Model hown hK hP o0.1 (wE_5 o0.2) rfl 19 (by decide) (hall _ m_423) (fun _ h9 => h9) rfl d_Model_commit_128 ?_
      have o_128 : okA g 6 16 (R a0 19) := ty_Model_19 hT o0
      refine lv_iload_n hx hb d_Model_commit_131 rfl (lv_at hl 1 rfl) ?_
      obtain ⟨hi132, h⟩ := chk_el h
      refine gg_iald hx hb hK hP o_128 hi132 d_Model_commit_132 ?_
      refine lv_iload_n hx hb d_Model_commit_133 rfl (lv_at hl 2 rfl) ?_
      refine lv_ishr hx hb d_Model_commit_134 ?_
      refine lv_iconst (v := 1) hx hb d_Model_commit_135 (by decide) ?_
      refine lv_iand hx hb d_Model_commit_136 ?_
      refine lv_iconst (v := 1) hx hb d_Model_commit_137 (by decide) ?_
      refine lv_icmp_ne hx hb d_Model_commit_138 rfl (fun hc => ?_) (fun hc => ?_)
      · replace h := i_neg hc h
        exact b_Model_commit_153 cx ih _ _ _ _ _ _ _ o0 h hP hS (lv_sub hl [0, 1, 2] rfl)
      · replace h := i_pos hc h
        refine lv_aload_n hx hb d_Model_commit_141 rfl (lv_at hl 0 rfl) ?_
        refine lv_iload_n hx hb d_Model_commit_142 rfl (lv_at hl 1 rfl) ?_
        refine lv_iload_n hx hb d_Model_commit_143 rfl (lv_at hl 2 rfl) ?_
        obtain ⟨v144, e144, h⟩ := ob_el h
        refine gg_Vi (As := [.int x1, .int x3]) (rest := []) (ci := 5) (C := R_Model) (T := F_Model) (N := 23) ⟨hx, hb, hml, hown, hall⟩ (c_Model_waits l hT o0 e144) (cwV 2 hall (gV m_464 m_465 m_466 m_338 m_455) rfl rfl rfl (by decide +kernel) ⟨Nat.le_of_ble_eq_true rfl, Nat.le_of_ble_eq_true rfl⟩) hK hP hS o0.1 (wE_5 o0.2) rfl rfl hl.1 rfl (Nat.le_of_ble_eq_true rfl) d_Model_commit_144 (fun H locs hP hS => ?_)
        refine lv_if_eq hx hb d_Model_commit_147 rfl (fun hc => ?_) (fun hc => ?_)
        · replace h := i_pos hc h
          exact b_Model_commit_153 cx ih _ _ _ _ _ _ _ o0 h hP hS (lv_sub hl [0, 1, 2] rfl)
        · replace h := i_neg hc h
          refine lv_bipush (v := (-4)) hx hb d_Model_commit_150 (by decide) ?_
          obtain ⟨rfl, rfl⟩ := rt_el h
          exact gg_iret hx hb hr hlk hK hP hS d_Model_commit_152
def B_Model_commit_60 (R : Nat → Nat → Nat) : Nat → Nat → Int32 → Int32 → St → Option (Int32 × St)
  | 0, _, _, _, _ => none
  | f + 1, a0, x1, x2, I => (if (2 : Int32) ≤ x2 then (chk x1 16 ((if (I (R a0 19) x1.toNatClampNeg) = 0 then (chk x1 16 (ap (up2 I (R a0 17) x1.toNatClampNeg (3 : Int32)) (fun I104 => some ((3 : Int32), I104)))) else (ob (F_Model_blocked R a0 x1 I) (fun v109 => (if 0 ≤ v109 then B_Model_commit_121 R 100 a0 x1 (0 : Int32) I else some (v109, I))))))) else (ob (F_Model_lost R a0 x1 x2 I) (fun v68 => (if v68 = 0 then B_Model_commit_60 R f a0 x1 (x2 + 1) I else (chk x1 16 (ap (up2 I (R a0 17) x1.toNatClampNeg (4 : Int32)) (fun I80 => some ((4 : Int32), I80))))))))
set_option maxHeartbeats 4000000 in
set_option maxRecDepth 100000 in
theorem b_Model_commit_60 {p : Program} {l : Launch} {e : Env} {s : State} {m : MethodId} {args : Array Value} {below : List Frame} {meth : Method} {c : Code} {g : Sg} {R : Nat → Nat → Nat} {J : St} {v : Int32} (cx : Cx p s m args meth c g R R_Model b_Model_commit 6 (some .int)) (f : Nat) : ∀ (a0 : Nat) (x1 : Int32) (x2 : Int32) (I : St) (H : Heap) (locs : List Loc) (ls : Array Slot), okA g 5 0 a0 → B_Model_commit_60 R f a0 x1 x2 I = some (v, J) → wW g R I H → va_S (· ∈ g.L) s.heap H locs → lv_has ls 6 [(0, .ref a0), (1, .int x1), (2, .int x2)] → W p l e { frames := 6, cells := 0, slots := 0, locals := 136 } s m args below meth c H locs 0 0 (MQ below (Qi g R v J) args s 0 0 (· ∈ g.L)) (F0 m 60 ls []) := by
  have ⟨hx, hb, hml, hr, hlk, hown, hall, hT, hK⟩ := cx
  induction f with
  | zero => intro a0 x1 x2 I H locs ls o0 h; unfold B_Model_commit_60 at h; cases h
  | succ f ih =>
    intro a0 x1 x2 I H locs ls o0 h hP hS hl
    unfold B_Model_commit_60 at h
    refine lv_iload_n hx hb d_Model_commit_60 rfl (lv_at hl 2 rfl) ?_
    refine lv_iconst (v := 2) hx hb d_Model_commit_61 (by decide) ?_
    refine lv_icmp_ge hx hb d_Model_commit_62 rfl (fun hc => ?_) (fun hc => ?_)
    · replace h := i_pos hc h
      refine lv_aload_n hx hb d_Model_commit_89 rfl (lv_at hl 0 rfl) ?_
      refine gg_get (C := R_Model) (T := F_Model) (N := 23) (ci := 5) hx hb hall i_Model hown hK hP o0.1 (wE_5 o0.2) rfl 19 (by decide) (hall _ m_423) (fun _ h9 => h9) rfl d_Model_commit_90 ?_
      have o_90 : okA g 6 16 (R a0 19) := ty_Model_19 hT o0
      refine lv_iload_n hx hb d_Model_commit_93 rfl (lv_at hl 1 rfl) ?_
      obtain ⟨hi94, h⟩ := chk_el h
      refine gg_iald hx hb hK hP o_90 hi94 d_Model_commit_94 ?_
      refine lv_if_ne hx hb d_Model_commit_95 rfl (fun hc => ?_) (fun hc => ?_)
      · replace h := i_neg hc h
        refine lv_aload_n hx hb d_Model_commit_107 rfl (lv_at hl 0 rfl) ?_
        refine lv_iload_n hx hb d_Model_commit_108 rfl (lv_at hl 1 rfl) ?_
        obtain ⟨v109, e109, h⟩ := ob_el h
        refine gg_Vi (As := [.int x1]) (rest := []) (ci := 5) (C := R_Model) (T := F_Model) (N := 23) ⟨hx, hb, hml, hown, hall⟩ (c_Model_blocked l hT o0 e109) (cwV 1 hall (gV m_467 m_468 m_469 m_338 m_459) rfl rfl rfl (by decide +kernel) ⟨Nat.le_of_ble_eq_true rfl, Nat.le_of_ble_eq_true rfl⟩) hK hP hS o0.1 (wE_5 o0.2) rfl rfl hl.1 rfl (Nat.le_of_ble_eq_true rfl) d_Model_commit_109 (fun H locs hP hS => ?_)
        refine lv_istore_n (lv' := [(2, .int v109), (0, .ref a0), (1, .int x1)]) hx hb d_Model_commit_112 rfl hl (Nat.le_of_ble_eq_true rfl) rfl (fun ls hl => ?_)
        refine lv_iload_n hx hb d_Model_commit_113 rfl (lv_at hl 0 rfl) ?_
        refine lv_if_ge hx hb d_Model_commit_114 rfl (fun hc => ?_) (fun hc => ?_)
        · replace h := i_pos hc h
          refine lv_iconst (v := 0) hx hb d_Model_commit_119 (by decide) ?_
          refine lv_istore_n (lv' := [(3, .int (0 : Int32)), (2, .int v109), (0, .ref a0), (1, .int x1)]) hx hb d_Model_commit_120 rfl hl (Nat.le_of_ble_eq_true rfl) rfl (fun ls hl => ?_)
          exact b_Model_commit_121 cx 100 _ _ _ _ _ _ _ o0 h hP hS (lv_sub hl [2, 3, 0] rfl)
        · replace h := i_neg hc h
          refine lv_iload_n hx hb d_Model_commit_117 rfl (lv_at hl 0 rfl) ?_
          obtain ⟨rfl, rfl⟩ := rt_el h
          exact gg_iret hx hb hr hlk hK hP hS d_Model_commit_118
      · replace h := i_pos hc h
        refine lv_aload_n hx hb d_Model_commit_98 rfl (lv_at hl 0 rfl) ?_
        refine gg_get (C := R_Model) (T := F_Model) (N := 23) (ci := 5) hx hb hall i_Model hown hK hP o0.1 (wE_5 o0.2) rfl 17 (by decide) (hall _ m_449) (fun _ h9 => h9) rfl d_Model_commit_99 ?_
        have o_99 : okA g 6 16 (R a0 17) := ty_Model_17 hT o0
        refine lv_iload_n hx hb d_Model_commit_102 rfl (lv_at hl 1 rfl) ?_
        refine lv_iconst (v := 3) hx hb d_Model_commit_103 (by decide) ?_
        obtain ⟨hi104, h⟩ := chk_el h
        refine gg_iast hx hb hT.1 hK hP hS o_99 hi104 d_Model_commit_104 (fun I104 H locs e104 hP hS => ?_)
        replace h := ap_el e104 h
        refine lv_iconst (v := 3) hx hb d_Model_commit_105 (by decide) ?_
        obtain ⟨rfl, rfl⟩ := rt_el h
        exact gg_iret hx hb hr hlk hK hP hS d_Model_commit_106
    · replace h := i_neg hc h
      refine lv_aload_n hx hb d_Model_commit_65 rfl (lv_at hl 0 rfl) ?_
      refine lv_iload_n hx hb d_Model_commit_66 rfl (lv_at hl 1 rfl) ?_
      refine lv_iload_n hx hb d_Model_commit_67 rfl (lv_at hl 2 rfl) ?_
      obtain ⟨v68, e68, h⟩ := ob_el h
      refine gg_Vi (As := [.int x1, .int x2]) (rest := []) (ci := 5) (C := R_Model) (T := F_Model) (N := 23) ⟨hx, hb, hml, hown, hall⟩ (c_Model_lost l hT o0 e68) (cwV 2 hall (gV m_450 m_451 m_452 m_338 m_432) rfl rfl rfl (by decide +kernel) ⟨Nat.le_of_ble_eq_true rfl, Nat.le_of_ble_eq_true rfl⟩) hK hP hS o0.1 (wE_5 o0.2) rfl rfl hl.1 rfl (Nat.le_of_ble_eq_true rfl) d_Model_commit_68 (fun H locs hP hS => ?_)
      refine lv_if_eq hx hb d_Model_commit_71 rfl (fun hc => ?_) (fun hc => ?_)
      · replace h := i_pos hc h
        refine lv_iinc (k := 2) (v := (x2 + 1)) (lv' := [(2, .int (x2 + 1)), (0, .ref a0), (1, .int x1)]) hx hb d_Model_commit_83 hl rfl (by rw [show Int32.ofInt 1 = (1 : Int32) from by decide]) (Nat.le_of_ble_eq_true rfl) rfl (fun ls hl => ?_)
        refine lv_goto hx hb d_Model_commit_86 rfl ?_
        exact ih _ _ _ _ _ _ _ o0 h hP hS (lv_sub hl [1, 2, 0] rfl)
      · replace h := i_neg hc h
        refine lv_aload_n hx hb d_Model_commit_74 rfl (lv_at hl 0 rfl) ?_
        refine gg_get (C := R_Model) (T := F_Model) (N := 23) (ci := 5) hx hb hall i_Model hown hK hP o0.1 (wE_5 o0.2) rfl 17 (by decide) (hall _ m_449) (fun _ h9 => h9) rfl d_Model_commit_75 ?_
        have o_75 : okA g 6 16 (R a0 17) := ty_Model_17 hT o0
        refine lv_iload_n hx hb d_Model_commit_78 rfl (lv_at hl 1 rfl) ?_
        refine lv_iconst (v := 4) hx hb d_Model_commit_79 (by decide) ?_
        obtain ⟨hi80, h⟩ := chk_el h
        refine gg_iast hx hb hT.1 hK hP hS o_75 hi80 d_Model_commit_80 (fun I80 H locs e80 hP hS => ?_)
        replace h := ap_el e80 h
        refine lv_iconst (v := 4) hx hb d_Model_commit_81 (by decide) ?_
        obtain ⟨rfl, rfl⟩ := rt_el h
        exact gg_iret hx hb hr hlk hK hP hS d_Model_commit_82
def B_Model_commit_27 (R : Nat → Nat → Nat) : Nat → Nat → Int32 → Int32 → St → Option (Int32 × St)
  | 0, _, _, _, _ => none
  | f + 1, a0, x1, x2, I => (if (2 : Int32) ≤ x2 then B_Model_commit_60 R 100 a0 x1 (0 : Int32) I else (ob (F_Model_touches R a0 x1 x2 I) (fun v35 => (if v35 = 0 then B_Model_commit_52 R (B_Model_commit_27 R f) a0 x1 x2 I else (ob (F_Model_ready R a0 x2 I) (fun v43 => (if 0 ≤ v43 then B_Model_commit_52 R (B_Model_commit_27 R f) a0 x1 x2 I else some ((-3 : Int32), I))))))))
set_option maxHeartbeats 4000000 in
set_option maxRecDepth 100000 in
theorem b_Model_commit_27 {p : Program} {l : Launch} {e : Env} {s : State} {m : MethodId} {args : Array Value} {below : List Frame} {meth : Method} {c : Code} {g : Sg} {R : Nat → Nat → Nat} {J : St} {v : Int32} (cx : Cx p s m args meth c g R R_Model b_Model_commit 6 (some .int)) (f : Nat) : ∀ (a0 : Nat) (x1 : Int32) (x2 : Int32) (I : St) (H : Heap) (locs : List Loc) (ls : Array Slot), okA g 5 0 a0 → B_Model_commit_27 R f a0 x1 x2 I = some (v, J) → wW g R I H → va_S (· ∈ g.L) s.heap H locs → lv_has ls 6 [(0, .ref a0), (1, .int x1), (2, .int x2)] → W p l e { frames := 6, cells := 0, slots := 0, locals := 136 } s m args below meth c H locs 0 0 (MQ below (Qi g R v J) args s 0 0 (· ∈ g.L)) (F0 m 27 ls []) := by
  have ⟨hx, hb, hml, hr, hlk, hown, hall, hT, hK⟩ := cx
  induction f with
  | zero => intro a0 x1 x2 I H locs ls o0 h; unfold B_Model_commit_27 at h; cases h
  | succ f ih =>
    intro a0 x1 x2 I H locs ls o0 h hP hS hl
    unfold B_Model_commit_27 at h
    refine lv_iload_n hx hb d_Model_commit_27 rfl (lv_at hl 2 rfl) ?_
    refine lv_iconst (v := 2) hx hb d_Model_commit_28 (by decide) ?_
    refine lv_icmp_ge hx hb d_Model_commit_29 rfl (fun hc => ?_) (fun hc => ?_)
    · replace h := i_pos hc h
      refine lv_iconst (v := 0) hx hb d_Model_commit_58 (by decide) ?_
      refine lv_istore_n (lv' := [(2, .int (0 : Int32)), (0, .ref a0), (1, .int x1)]) hx hb d_Model_commit_59 rfl hl (Nat.le_of_ble_eq_true rfl) rfl (fun ls hl => ?_)
      exact b_Model_commit_60 cx 100 _ _ _ _ _ _ _ o0 h hP hS (lv_sub hl [1, 2, 0] rfl)
    · replace h := i_neg hc h
      refine lv_aload_n hx hb d_Model_commit_32 rfl (lv_at hl 0 rfl) ?_
      refine lv_iload_n hx hb d_Model_commit_33 rfl (lv_at hl 1 rfl) ?_
      refine lv_iload_n hx hb d_Model_commit_34 rfl (lv_at hl 2 rfl) ?_
      obtain ⟨v35, e35, h⟩ := ob_el h
      refine gg_Vi (As := [.int x1, .int x2]) (rest := []) (ci := 5) (C := R_Model) (T := F_Model) (N := 23) ⟨hx, hb, hml, hown, hall⟩ (c_Model_touches l hT o0 e35) (cwV 2 hall (gV m_456 m_457 m_458 m_338 m_426) rfl rfl rfl (by decide +kernel) ⟨Nat.le_of_ble_eq_true rfl, Nat.le_of_ble_eq_true rfl⟩) hK hP hS o0.1 (wE_5 o0.2) rfl rfl hl.1 rfl (Nat.le_of_ble_eq_true rfl) d_Model_commit_35 (fun H locs hP hS => ?_)
      refine lv_if_eq hx hb d_Model_commit_38 rfl (fun hc => ?_) (fun hc => ?_)
      · replace h := i_pos hc h
        exact b_Model_commit_52 cx ih _ _ _ _ _ _ _ o0 h hP hS (lv_sub hl [0, 1, 2] rfl)
      · replace h := i_neg hc h
        refine lv_aload_n hx hb d_Model_commit_41 rfl (lv_at hl 0 rfl) ?_
        refine lv_iload_n hx hb d_Model_commit_42 rfl (lv_at hl 2 rfl) ?_
        obtain ⟨v43, e43, h⟩ := ob_el h
        refine gg_Vi (As := [.int x2]) (rest := []) (ci := 5) (C := R_Model) (T := F_Model) (N := 23) ⟨hx, hb, hml, hown, hall⟩ (c_Model_ready l hT o0 e43) (cwV 1 hall (gV m_360 m_361 m_362 m_338 m_359) rfl rfl rfl (by decide +kernel) ⟨Nat.le_of_ble_eq_true rfl, Nat.le_of_ble_eq_true rfl⟩) hK hP hS o0.1 (wE_5 o0.2) rfl rfl hl.1 rfl (Nat.le_of_ble_eq_true rfl) d_Model_commit_43 (fun H locs hP hS => ?_)
        refine lv_if_ge hx hb d_Model_commit_46 rfl (fun hc => ?_) (fun hc => ?_)
        · replace h := i_pos hc h
          exact b_Model_commit_52 cx ih _ _ _ _ _ _ _ o0 h hP hS (lv_sub hl [0, 1, 2] rfl)
        · replace h := i_neg hc h
          refine lv_bipush (v := (-3)) hx hb d_Model_commit_49 (by decide) ?_
          obtain ⟨rfl, rfl⟩ := rt_el h
          exact gg_iret hx hb hr hlk hK hP hS d_Model_commit_51
def F_Model_commit (R : Nat → Nat → Nat) (a0 : Nat) (x1 : Int32) (I : St) : Option (Int32 × St) := (ob (F_Model_below R x1 (I a0 16) I) (fun v5 => (if v5 = 0 then some ((-1 : Int32), I) else (chk x1 16 ((if (I (R a0 17) x1.toNatClampNeg) = 0 then B_Model_commit_27 R 100 a0 x1 (0 : Int32) I else some ((-2 : Int32), I)))))))
set_option maxHeartbeats 4000000 in
set_option maxRecDepth 100000 in
theorem c_Model_commit (l : Launch) {g : Sg} {R : Nat → Nat → Nat} (hT : Ty g R) {a0 : Nat} (o0 : okA g 5 0 a0) {x1 : Int32} {I : St} {J : St} {v : Int32} (h : F_Model_commit R a0 x1 I = some (v, J)) : Cti l g R y_Model_commit w_Model_commit 6 136 [.ref a0, .int x1] I v J := by
  unfold Cti
  refine Met.ofW (cc := b_Model_commit) (maxL := 6) (ret := (some .int)) (by decide) rfl ?_
  intro p e s m args below meth c s₁ B hml hv
  obtain ⟨rfl, hP, hK⟩ := hv
  have hts := atoms_spec (ws := w_Model_commit) B.pre
  have hall : ∀ w ∈ w_all, w.before _ s = true := fun w hw => hts w (List.mem_cons_of_mem _ hw)
  have hown : s.vm.findClass R_Model = some m.cls := findClass_of_methodNamed B.named
  have hx := B.exec
  have hb := B.bytes
  have hr := B.returns
  have hlk := B.notSynchronized
  have cx : Cx p s m _ meth c g R R_Model b_Model_commit 6 (some .int) := ⟨hx, hb, hml, hr, hlk, hown, hall, hT, hK⟩
  have hl := lv_entry ([.ref a0, .int x1]) (n := 6) (Nat.le_of_ble_eq_true rfl)
  rw [lg_entry_eq]
  generalize (lg_sl ([.ref a0, .int x1]) ++ List.replicate (6 - (lg_sl ([.ref a0, .int x1])).length) Slot.unset).toArray = ls at hl ⊢
  have hl : lv_has ls 6 [(0, .ref a0), (1, .int x1)] := hl
  have hS : va_S (· ∈ g.L) s.heap s.heap [] := va_S.rf
  unfold F_Model_commit at h
  refine lv_iload_n hx hb d_Model_commit_0 rfl (lv_at hl 1 rfl) ?_
  refine lv_aload_n hx hb d_Model_commit_1 rfl (lv_at hl 0 rfl) ?_
  refine gg_get (C := R_Model) (T := F_Model) (N := 23) (ci := 5) hx hb hall i_Model hown hK hP o0.1 (wE_5 o0.2) rfl 16 (by decide) (hall _ m_419) (fun _ h9 => h9) rfl d_Model_commit_2 ?_
  obtain ⟨v5, e5, h⟩ := ob_el h
  refine gg_Si (As := [.int x1, .int (I a0 16)]) (rest := []) ⟨hx, hb, hml, hown, hall⟩ (c_Model_below l hT e5) (cwS 2 hall (gS m_336 m_337 m_338 m_329) rfl rfl rfl (by decide +kernel) ⟨Nat.le_of_ble_eq_true rfl, Nat.le_of_ble_eq_true rfl⟩) hK hP hS rfl hl.1 rfl (Nat.le_of_ble_eq_true rfl) d_Model_commit_5 (fun H locs hP hS => ?_)
  refine lv_if_ne hx hb d_Model_commit_8 rfl (fun hc => ?_) (fun hc => ?_)
  · replace h := i_neg hc h
    refine lv_aload_n hx hb d_Model_commit_13 rfl (lv_at hl 0 rfl) ?_
    refine gg_get (C := R_Model) (T := F_Model) (N := 23) (ci := 5) hx hb hall i_Model hown hK hP o0.1 (wE_5 o0.2) rfl 17 (by decide) (hall _ m_449) (fun _ h9 => h9) rfl d_Model_commit_14 ?_
    have o_14 : okA g 6 16 (R a0 17) := ty_Model_17 hT o0
    refine lv_iload_n hx hb d_Model_commit_17 rfl (lv_at hl 1 rfl) ?_
    obtain ⟨hi18, h⟩ := chk_el h
    refine gg_iald hx hb hK hP o_14 hi18 d_Model_commit_18 ?_
    refine lv_if_eq hx hb d_Model_commit_19 rfl (fun hc => ?_) (fun hc => ?_)
    · replace h := i_pos hc h
      refine lv_iconst (v := 0) hx hb d_Model_commit_25 (by decide) ?_
      refine lv_istore_n (lv' := [(2, .int (0 : Int32)), (0, .ref a0), (1, .int x1)]) hx hb d_Model_commit_26 rfl hl (Nat.le_of_ble_eq_true rfl) rfl (fun ls hl => ?_)
      exact b_Model_commit_27 cx 100 _ _ _ _ _ _ _ o0 h hP hS (lv_sub hl [1, 2, 0] rfl)
    · replace h := i_neg hc h
      refine lv_bipush (v := (-2)) hx hb d_Model_commit_22 (by decide) ?_
      obtain ⟨rfl, rfl⟩ := rt_el h
      exact gg_iret hx hb hr hlk hK hP hS d_Model_commit_24
  · replace h := i_pos hc h
    refine lv_iconst (v := (-1)) hx hb d_Model_commit_11 (by decide) ?_
    obtain ⟨rfl, rfl⟩ := rt_el h
    exact gg_iret hx hb hr hlk hK hP hS d_Model_commit_12
end
