section
abbrev b_Model_snapshot : ByteArray := prog_7_method_49_code
def y_Model_snapshot : MethodName := ⟨"StampedStoreModel", "snapshot", "(III)I"⟩
def w_Model_snapshot : List Cond := .code y_Model_snapshot b_Model_snapshot 9 (some .int) :: w_all
theorem d_Model_snapshot_0 : decode b_Model_snapshot 0 = .ok (.iload_n 1, 1) := by decide +kernel
theorem d_Model_snapshot_1 : decode b_Model_snapshot 1 = .ok (.bipush 6, 2) := by decide +kernel
theorem d_Model_snapshot_3 : decode b_Model_snapshot 3 = .ok (.invokestatic 78, 3) := by decide +kernel
theorem d_Model_snapshot_6 : decode b_Model_snapshot 6 = .ok (.ifCond .eq 34, 3) := by decide +kernel
theorem d_Model_snapshot_9 : decode b_Model_snapshot 9 = .ok (.iload_n 2, 1) := by decide +kernel
theorem d_Model_snapshot_10 : decode b_Model_snapshot 10 = .ok (.bipush 8, 2) := by decide +kernel
theorem d_Model_snapshot_12 : decode b_Model_snapshot 12 = .ok (.invokestatic 78, 3) := by decide +kernel
theorem d_Model_snapshot_15 : decode b_Model_snapshot 15 = .ok (.ifCond .eq 25, 3) := by decide +kernel
theorem d_Model_snapshot_18 : decode b_Model_snapshot 18 = .ok (.iload_n 2, 1) := by decide +kernel
theorem d_Model_snapshot_19 : decode b_Model_snapshot 19 = .ok (.iconst 4, 1) := by decide +kernel
theorem d_Model_snapshot_20 : decode b_Model_snapshot 20 = .ok (.idiv, 1) := by decide +kernel
theorem d_Model_snapshot_21 : decode b_Model_snapshot 21 = .ok (.iload_n 1, 1) := by decide +kernel
theorem d_Model_snapshot_22 : decode b_Model_snapshot 22 = .ok (.iconst 3, 1) := by decide +kernel
theorem d_Model_snapshot_23 : decode b_Model_snapshot 23 = .ok (.idiv, 1) := by decide +kernel
theorem d_Model_snapshot_24 : decode b_Model_snapshot 24 = .ok (.if_icmp .ne 16, 3) := by decide +kernel
theorem d_Model_snapshot_27 : decode b_Model_snapshot 27 = .ok (.aload_n 0, 1) := by decide +kernel
theorem d_Model_snapshot_28 : decode b_Model_snapshot 28 = .ok (.getfield 7, 3) := by decide +kernel
theorem d_Model_snapshot_31 : decode b_Model_snapshot 31 = .ok (.iload_n 1, 1) := by decide +kernel
theorem d_Model_snapshot_32 : decode b_Model_snapshot 32 = .ok (.baload, 1) := by decide +kernel
theorem d_Model_snapshot_33 : decode b_Model_snapshot 33 = .ok (.ifCond .ne 7, 3) := by decide +kernel
theorem d_Model_snapshot_36 : decode b_Model_snapshot 36 = .ok (.iload_n 3, 1) := by decide +kernel
theorem d_Model_snapshot_37 : decode b_Model_snapshot 37 = .ok (.ifCond .ge 5, 3) := by decide +kernel
theorem d_Model_snapshot_40 : decode b_Model_snapshot 40 = .ok (.iconst (-1), 1) := by decide +kernel
theorem d_Model_snapshot_41 : decode b_Model_snapshot 41 = .ok (.ireturn, 1) := by decide +kernel
theorem d_Model_snapshot_42 : decode b_Model_snapshot 42 = .ok (.aload_n 0, 1) := by decide +kernel
theorem d_Model_snapshot_43 : decode b_Model_snapshot 43 = .ok (.getfield 35, 3) := by decide +kernel
theorem d_Model_snapshot_46 : decode b_Model_snapshot 46 = .ok (.iload_n 1, 1) := by decide +kernel
theorem d_Model_snapshot_47 : decode b_Model_snapshot 47 = .ok (.iaload, 1) := by decide +kernel
theorem d_Model_snapshot_48 : decode b_Model_snapshot 48 = .ok (.ifCond .eq 12, 3) := by decide +kernel
theorem d_Model_snapshot_51 : decode b_Model_snapshot 51 = .ok (.iload_n 3, 1) := by decide +kernel
theorem d_Model_snapshot_52 : decode b_Model_snapshot 52 = .ok (.aload_n 0, 1) := by decide +kernel
theorem d_Model_snapshot_53 : decode b_Model_snapshot 53 = .ok (.iload_n 1, 1) := by decide +kernel
theorem d_Model_snapshot_54 : decode b_Model_snapshot 54 = .ok (.invokevirtual 177, 3) := by decide +kernel
theorem d_Model_snapshot_57 : decode b_Model_snapshot 57 = .ok (.if_icmp .le 6, 3) := by decide +kernel
theorem d_Model_snapshot_60 : decode b_Model_snapshot 60 = .ok (.bipush (-4), 2) := by decide +kernel
theorem d_Model_snapshot_62 : decode b_Model_snapshot 62 = .ok (.ireturn, 1) := by decide +kernel
theorem d_Model_snapshot_63 : decode b_Model_snapshot 63 = .ok (.iconst 0, 1) := by decide +kernel
theorem d_Model_snapshot_64 : decode b_Model_snapshot 64 = .ok (.istore 4, 2) := by decide +kernel
theorem d_Model_snapshot_66 : decode b_Model_snapshot 66 = .ok (.iconst 0, 1) := by decide +kernel
theorem d_Model_snapshot_67 : decode b_Model_snapshot 67 = .ok (.istore 5, 2) := by decide +kernel
theorem d_Model_snapshot_69 : decode b_Model_snapshot 69 = .ok (.iload 5, 2) := by decide +kernel
theorem d_Model_snapshot_71 : decode b_Model_snapshot 71 = .ok (.aload_n 0, 1) := by decide +kernel
theorem d_Model_snapshot_72 : decode b_Model_snapshot 72 = .ok (.getfield 35, 3) := by decide +kernel
theorem d_Model_snapshot_75 : decode b_Model_snapshot 75 = .ok (.iload_n 1, 1) := by decide +kernel
theorem d_Model_snapshot_76 : decode b_Model_snapshot 76 = .ok (.iaload, 1) := by decide +kernel
theorem d_Model_snapshot_77 : decode b_Model_snapshot 77 = .ok (.if_icmp .ge 30, 3) := by decide +kernel
theorem d_Model_snapshot_80 : decode b_Model_snapshot 80 = .ok (.iload 4, 2) := by decide +kernel
theorem d_Model_snapshot_82 : decode b_Model_snapshot 82 = .ok (.aload_n 0, 1) := by decide +kernel
theorem d_Model_snapshot_83 : decode b_Model_snapshot 83 = .ok (.iload_n 1, 1) := by decide +kernel
theorem d_Model_snapshot_84 : decode b_Model_snapshot 84 = .ok (.iload 5, 2) := by decide +kernel
theorem d_Model_snapshot_86 : decode b_Model_snapshot 86 = .ok (.iload_n 2, 1) := by decide +kernel
theorem d_Model_snapshot_87 : decode b_Model_snapshot 87 = .ok (.invokevirtual 156, 3) := by decide +kernel
theorem d_Model_snapshot_90 : decode b_Model_snapshot 90 = .ok (.ifCond .eq 7, 3) := by decide +kernel
theorem d_Model_snapshot_93 : decode b_Model_snapshot 93 = .ok (.iconst 1, 1) := by decide +kernel
theorem d_Model_snapshot_94 : decode b_Model_snapshot 94 = .ok (.goto 4, 3) := by decide +kernel
theorem d_Model_snapshot_97 : decode b_Model_snapshot 97 = .ok (.iconst 0, 1) := by decide +kernel
theorem d_Model_snapshot_98 : decode b_Model_snapshot 98 = .ok (.iadd, 1) := by decide +kernel
theorem d_Model_snapshot_99 : decode b_Model_snapshot 99 = .ok (.istore 4, 2) := by decide +kernel
theorem d_Model_snapshot_101 : decode b_Model_snapshot 101 = .ok (.iinc 5 1, 3) := by decide +kernel
theorem d_Model_snapshot_104 : decode b_Model_snapshot 104 = .ok (.goto (-35), 3) := by decide +kernel
theorem d_Model_snapshot_107 : decode b_Model_snapshot 107 = .ok (.iconst 0, 1) := by decide +kernel
theorem d_Model_snapshot_108 : decode b_Model_snapshot 108 = .ok (.istore 5, 2) := by decide +kernel
theorem d_Model_snapshot_110 : decode b_Model_snapshot 110 = .ok (.iconst 0, 1) := by decide +kernel
theorem d_Model_snapshot_111 : decode b_Model_snapshot 111 = .ok (.istore 6, 2) := by decide +kernel
theorem d_Model_snapshot_113 : decode b_Model_snapshot 113 = .ok (.iconst 0, 1) := by decide +kernel
theorem d_Model_snapshot_114 : decode b_Model_snapshot 114 = .ok (.istore 7, 2) := by decide +kernel
theorem d_Model_snapshot_116 : decode b_Model_snapshot 116 = .ok (.iload 7, 2) := by decide +kernel
theorem d_Model_snapshot_118 : decode b_Model_snapshot 118 = .ok (.aload_n 0, 1) := by decide +kernel
theorem d_Model_snapshot_119 : decode b_Model_snapshot 119 = .ok (.getfield 35, 3) := by decide +kernel
theorem d_Model_snapshot_122 : decode b_Model_snapshot 122 = .ok (.iload_n 1, 1) := by decide +kernel
theorem d_Model_snapshot_123 : decode b_Model_snapshot 123 = .ok (.iaload, 1) := by decide +kernel
theorem d_Model_snapshot_124 : decode b_Model_snapshot 124 = .ok (.if_icmp .ge 95, 3) := by decide +kernel
theorem d_Model_snapshot_127 : decode b_Model_snapshot 127 = .ok (.aload_n 0, 1) := by decide +kernel
theorem d_Model_snapshot_128 : decode b_Model_snapshot 128 = .ok (.iload_n 1, 1) := by decide +kernel
theorem d_Model_snapshot_129 : decode b_Model_snapshot 129 = .ok (.iload 7, 2) := by decide +kernel
theorem d_Model_snapshot_131 : decode b_Model_snapshot 131 = .ok (.iload_n 2, 1) := by decide +kernel
theorem d_Model_snapshot_132 : decode b_Model_snapshot 132 = .ok (.invokevirtual 156, 3) := by decide +kernel
theorem d_Model_snapshot_135 : decode b_Model_snapshot 135 = .ok (.ifCond .eq 78, 3) := by decide +kernel
theorem d_Model_snapshot_138 : decode b_Model_snapshot 138 = .ok (.aload_n 0, 1) := by decide +kernel
theorem d_Model_snapshot_139 : decode b_Model_snapshot 139 = .ok (.bipush 60, 2) := by decide +kernel
theorem d_Model_snapshot_141 : decode b_Model_snapshot 141 = .ok (.iload_n 1, 1) := by decide +kernel
theorem d_Model_snapshot_142 : decode b_Model_snapshot 142 = .ok (.imul, 1) := by decide +kernel
theorem d_Model_snapshot_143 : decode b_Model_snapshot 143 = .ok (.iload 7, 2) := by decide +kernel
theorem d_Model_snapshot_145 : decode b_Model_snapshot 145 = .ok (.iadd, 1) := by decide +kernel
theorem d_Model_snapshot_146 : decode b_Model_snapshot 146 = .ok (.invokevirtual 180, 3) := by decide +kernel
theorem d_Model_snapshot_149 : decode b_Model_snapshot 149 = .ok (.istore 8, 2) := by decide +kernel
theorem d_Model_snapshot_151 : decode b_Model_snapshot 151 = .ok (.iload 4, 2) := by decide +kernel
theorem d_Model_snapshot_153 : decode b_Model_snapshot 153 = .ok (.iconst 3, 1) := by decide +kernel
theorem d_Model_snapshot_154 : decode b_Model_snapshot 154 = .ok (.if_icmp .le 21, 3) := by decide +kernel
theorem d_Model_snapshot_157 : decode b_Model_snapshot 157 = .ok (.iload 6, 2) := by decide +kernel
theorem d_Model_snapshot_159 : decode b_Model_snapshot 159 = .ok (.iload 4, 2) := by decide +kernel
theorem d_Model_snapshot_161 : decode b_Model_snapshot 161 = .ok (.iconst 3, 1) := by decide +kernel
theorem d_Model_snapshot_162 : decode b_Model_snapshot 162 = .ok (.isub, 1) := by decide +kernel
theorem d_Model_snapshot_163 : decode b_Model_snapshot 163 = .ok (.if_icmp .ne 12, 3) := by decide +kernel
theorem d_Model_snapshot_166 : decode b_Model_snapshot 166 = .ok (.iload_n 3, 1) := by decide +kernel
theorem d_Model_snapshot_167 : decode b_Model_snapshot 167 = .ok (.iload 8, 2) := by decide +kernel
theorem d_Model_snapshot_169 : decode b_Model_snapshot 169 = .ok (.if_icmp .ge 6, 3) := by decide +kernel
theorem d_Model_snapshot_172 : decode b_Model_snapshot 172 = .ok (.bipush (-8), 2) := by decide +kernel
theorem d_Model_snapshot_174 : decode b_Model_snapshot 174 = .ok (.ireturn, 1) := by decide +kernel
theorem d_Model_snapshot_175 : decode b_Model_snapshot 175 = .ok (.iload 8, 2) := by decide +kernel
theorem d_Model_snapshot_177 : decode b_Model_snapshot 177 = .ok (.iload_n 3, 1) := by decide +kernel
theorem d_Model_snapshot_178 : decode b_Model_snapshot 178 = .ok (.if_icmp .gt 28, 3) := by decide +kernel
theorem d_Model_snapshot_181 : decode b_Model_snapshot 181 = .ok (.aload_n 0, 1) := by decide +kernel
theorem d_Model_snapshot_182 : decode b_Model_snapshot 182 = .ok (.getfield 62, 3) := by decide +kernel
theorem d_Model_snapshot_185 : decode b_Model_snapshot 185 = .ok (.bipush 8, 2) := by decide +kernel
theorem d_Model_snapshot_187 : decode b_Model_snapshot 187 = .ok (.aload_n 0, 1) := by decide +kernel
theorem d_Model_snapshot_188 : decode b_Model_snapshot 188 = .ok (.getfield 47, 3) := by decide +kernel
theorem d_Model_snapshot_191 : decode b_Model_snapshot 191 = .ok (.bipush 60, 2) := by decide +kernel
theorem d_Model_snapshot_193 : decode b_Model_snapshot 193 = .ok (.iload_n 1, 1) := by decide +kernel
theorem d_Model_snapshot_194 : decode b_Model_snapshot 194 = .ok (.imul, 1) := by decide +kernel
theorem d_Model_snapshot_195 : decode b_Model_snapshot 195 = .ok (.iload 7, 2) := by decide +kernel
theorem d_Model_snapshot_197 : decode b_Model_snapshot 197 = .ok (.iadd, 1) := by decide +kernel
theorem d_Model_snapshot_198 : decode b_Model_snapshot 198 = .ok (.iaload, 1) := by decide +kernel
theorem d_Model_snapshot_199 : decode b_Model_snapshot 199 = .ok (.imul, 1) := by decide +kernel
theorem d_Model_snapshot_200 : decode b_Model_snapshot 200 = .ok (.iload_n 2, 1) := by decide +kernel
theorem d_Model_snapshot_201 : decode b_Model_snapshot 201 = .ok (.iadd, 1) := by decide +kernel
theorem d_Model_snapshot_202 : decode b_Model_snapshot 202 = .ok (.iaload, 1) := by decide +kernel
theorem d_Model_snapshot_203 : decode b_Model_snapshot 203 = .ok (.goto 5, 3) := by decide +kernel
theorem d_Model_snapshot_206 : decode b_Model_snapshot 206 = .ok (.iload 5, 2) := by decide +kernel
theorem d_Model_snapshot_208 : decode b_Model_snapshot 208 = .ok (.istore 5, 2) := by decide +kernel
theorem d_Model_snapshot_210 : decode b_Model_snapshot 210 = .ok (.iinc 6 1, 3) := by decide +kernel
theorem d_Model_snapshot_213 : decode b_Model_snapshot 213 = .ok (.iinc 7 1, 3) := by decide +kernel
theorem d_Model_snapshot_216 : decode b_Model_snapshot 216 = .ok (.goto (-100), 3) := by decide +kernel
theorem d_Model_snapshot_219 : decode b_Model_snapshot 219 = .ok (.iload 5, 2) := by decide +kernel
theorem d_Model_snapshot_221 : decode b_Model_snapshot 221 = .ok (.ireturn, 1) := by decide +kernel
def B_Model_snapshot_40 (R : Nat → Nat → Nat) (I : St) : Option Int32 := some (-1 : Int32)
set_option maxHeartbeats 4000000 in
set_option maxRecDepth 100000 in
theorem b_Model_snapshot_40 {p : Program} {l : Launch} {e : Env} {s : State} {m : MethodId} {args : Array Value} {below : List Frame} {meth : Method} {c : Code} {g : Sg} {R : Nat → Nat → Nat} {I : St} {v : Int32} (cx : Cx p s m args meth c g R R_Model b_Model_snapshot 9 (some .int)) : ∀ (H : Heap) (locs : List Loc) (ls : Array Slot), B_Model_snapshot_40 R I = some v → wW g R I H → va_S (· ∈ g.L) s.heap H locs → lv_has ls 9 [] → W p l e { frames := 3, cells := 0, slots := 0, locals := 74 } s m args below meth c H locs 0 0 (MQ below (Qi g R v I) args s 0 0 (· ∈ g.L)) (F0 m 40 ls []) := by
  have ⟨hx, hb, hml, hr, hlk, hown, hall, hT, hK⟩ := cx
  intro H locs ls h hP hS hl
  unfold B_Model_snapshot_40 at h
  refine lv_iconst (v := (-1)) hx hb d_Model_snapshot_40 (by decide) ?_
  obtain rfl := Option.some.inj h
  exact gg_iret hx hb hr hlk hK hP hS d_Model_snapshot_41
def B_Model_snapshot_60 (R : Nat → Nat → Nat) (I : St) : Option Int32 := some (-4 : Int32)
set_option maxHeartbeats 4000000 in
set_option maxRecDepth 100000 in
theorem b_Model_snapshot_60 {p : Program} {l : Launch} {e : Env} {s : State} {m : MethodId} {args : Array Value} {below : List Frame} {meth : Method} {c : Code} {g : Sg} {R : Nat → Nat → Nat} {I : St} {v : Int32} (cx : Cx p s m args meth c g R R_Model b_Model_snapshot 9 (some .int)) : ∀ (H : Heap) (locs : List Loc) (ls : Array Slot), B_Model_snapshot_60 R I = some v → wW g R I H → va_S (· ∈ g.L) s.heap H locs → lv_has ls 9 [] → W p l e { frames := 3, cells := 0, slots := 0, locals := 74 } s m args below meth c H locs 0 0 (MQ below (Qi g R v I) args s 0 0 (· ∈ g.L)) (F0 m 60 ls []) := by
  have ⟨hx, hb, hml, hr, hlk, hown, hall, hT, hK⟩ := cx
  intro H locs ls h hP hS hl
  unfold B_Model_snapshot_60 at h
  refine lv_bipush (v := (-4)) hx hb d_Model_snapshot_60 (by decide) ?_
  obtain rfl := Option.some.inj h
  exact gg_iret hx hb hr hlk hK hP hS d_Model_snapshot_62
def B_Model_snapshot_98 (R : Nat → Nat → Nat) (I : St) (k69 : Nat → Int32 → Int32 → Int32 → Int32 → Int32 → Option Int32) (a0 : Nat) (x1 : Int32) (x2 : Int32) (x3 : Int32) (x5 : Int32) (t0 : Int32) (t1 : Int32) : Option Int32 := k69 a0 x1 x2 x3 (t0 + t1) (x5 + 1)
set_option maxHeartbeats 4000000 in
set_option maxRecDepth 100000 in
theorem b_Model_snapshot_98 {p : Program} {l : Launch} {e : Env} {s : State} {m : MethodId} {args : Array Value} {below : List Frame} {meth : Method} {c : Code} {g : Sg} {R : Nat → Nat → Nat} {I : St} {v : Int32} (cx : Cx p s m args meth c g R R_Model b_Model_snapshot 9 (some .int)) {k69 : Nat → Int32 → Int32 → Int32 → Int32 → Int32 → Option Int32} (hk69 : ∀ (a0 : Nat) (x1 : Int32) (x2 : Int32) (x3 : Int32) (x4 : Int32) (x5 : Int32) (H : Heap) (locs : List Loc) (ls : Array Slot), okA g 5 0 a0 → k69 a0 x1 x2 x3 x4 x5 = some v → wW g R I H → va_S (· ∈ g.L) s.heap H locs → lv_has ls 9 [(0, .ref a0), (1, .int x1), (2, .int x2), (3, .int x3), (4, .int x4), (5, .int x5)] → W p l e { frames := 3, cells := 0, slots := 0, locals := 74 } s m args below meth c H locs 0 0 (MQ below (Qi g R v I) args s 0 0 (· ∈ g.L)) (F0 m 69 ls [])) : ∀ (a0 : Nat) (x1 : Int32) (x2 : Int32) (x3 : Int32) (x5 : Int32) (t0 : Int32) (t1 : Int32) (H : Heap) (locs : List Loc) (ls : Array Slot), okA g 5 0 a0 → B_Model_snapshot_98 R I k69 a0 x1 x2 x3 x5 t0 t1 = some v → wW g R I H → va_S (· ∈ g.L) s.heap H locs → lv_has ls 9 [(0, .ref a0), (1, .int x1), (2, .int x2), (3, .int x3), (5, .int x5)] → W p l e { frames := 3, cells := 0, slots := 0, locals := 74 } s m args below meth c H locs 0 0 (MQ below (Qi g R v I) args s 0 0 (· ∈ g.L)) (F0 m 98 ls [.int t1, .int t0]) := by
  have ⟨hx, hb, hml, hr, hlk, hown, hall, hT, hK⟩ := cx
  intro a0 x1 x2 x3 x5 t0 t1 H locs ls o0 h hP hS hl
  unfold B_Model_snapshot_98 at h
  refine lv_iadd hx hb d_Model_snapshot_98 ?_
  refine lv_istore (lv' := [(4, .int (t0 + t1)), (0, .ref a0), (1, .int x1), (2, .int x2), (3, .int x3), (5, .int x5)]) hx hb d_Model_snapshot_99 hl (Nat.le_of_ble_eq_true rfl) rfl (fun ls hl => ?_)
  refine lv_iinc (k := 5) (v := (x5 + 1)) (lv' := [(5, .int (x5 + 1)), (4, .int (t0 + t1)), (0, .ref a0), (1, .int x1), (2, .int x2), (3, .int x3)]) hx hb d_Model_snapshot_101 hl rfl (by rw [show Int32.ofInt 1 = (1 : Int32) from by decide]) (Nat.le_of_ble_eq_true rfl) rfl (fun ls hl => ?_)
  refine lv_goto hx hb d_Model_snapshot_104 rfl ?_
  exact hk69 _ _ _ _ _ _ _ _ _ o0 h hP hS (lv_sub hl [2, 3, 4, 5, 1, 0] rfl)
def B_Model_snapshot_213 (R : Nat → Nat → Nat) (I : St) (k116 : Nat → Int32 → Int32 → Int32 → Int32 → Int32 → Int32 → Int32 → Option Int32) (a0 : Nat) (x1 : Int32) (x2 : Int32) (x3 : Int32) (x4 : Int32) (x5 : Int32) (x6 : Int32) (x7 : Int32) : Option Int32 := k116 a0 x1 x2 x3 x4 x5 x6 (x7 + 1)
set_option maxHeartbeats 4000000 in
set_option maxRecDepth 100000 in
theorem b_Model_snapshot_213 {p : Program} {l : Launch} {e : Env} {s : State} {m : MethodId} {args : Array Value} {below : List Frame} {meth : Method} {c : Code} {g : Sg} {R : Nat → Nat → Nat} {I : St} {v : Int32} (cx : Cx p s m args meth c g R R_Model b_Model_snapshot 9 (some .int)) {k116 : Nat → Int32 → Int32 → Int32 → Int32 → Int32 → Int32 → Int32 → Option Int32} (hk116 : ∀ (a0 : Nat) (x1 : Int32) (x2 : Int32) (x3 : Int32) (x4 : Int32) (x5 : Int32) (x6 : Int32) (x7 : Int32) (H : Heap) (locs : List Loc) (ls : Array Slot), okA g 5 0 a0 → k116 a0 x1 x2 x3 x4 x5 x6 x7 = some v → wW g R I H → va_S (· ∈ g.L) s.heap H locs → lv_has ls 9 [(0, .ref a0), (1, .int x1), (2, .int x2), (3, .int x3), (4, .int x4), (5, .int x5), (6, .int x6), (7, .int x7)] → W p l e { frames := 3, cells := 0, slots := 0, locals := 74 } s m args below meth c H locs 0 0 (MQ below (Qi g R v I) args s 0 0 (· ∈ g.L)) (F0 m 116 ls [])) : ∀ (a0 : Nat) (x1 : Int32) (x2 : Int32) (x3 : Int32) (x4 : Int32) (x5 : Int32) (x6 : Int32) (x7 : Int32) (H : Heap) (locs : List Loc) (ls : Array Slot), okA g 5 0 a0 → B_Model_snapshot_213 R I k116 a0 x1 x2 x3 x4 x5 x6 x7 = some v → wW g R I H → va_S (· ∈ g.L) s.heap H locs → lv_has ls 9 [(0, .ref a0), (1, .int x1), (2, .int x2), (3, .int x3), (4, .int x4), (5, .int x5), (6, .int x6), (7, .int x7)] → W p l e { frames := 3, cells := 0, slots := 0, locals := 74 } s m args below meth c H locs 0 0 (MQ below (Qi g R v I) args s 0 0 (· ∈ g.L)) (F0 m 213 ls []) := by
  have ⟨hx, hb, hml, hr, hlk, hown, hall, hT, hK⟩ := cx
  intro a0 x1 x2 x3 x4 x5 x6 x7 H locs ls o0 h hP hS hl
  unfold B_Model_snapshot_213 at h
  refine lv_iinc (k := 7) (v := (x7 + 1)) (lv' := [(7, .int (x7 + 1)), (0, .ref a0), (1, .int x1), (2, .int x2), (3, .int x3), (4, .int x4), (5, .int x5), (6, .int x6)]) hx hb d_Model_snapshot_213 hl rfl (by rw [show Int32.ofInt 1 = (1 : Int32) from by decide]) (Nat.le_of_ble_eq_true rfl) rfl (fun ls hl => ?_)
  refine lv_goto hx hb d_Model_snapshot_216 rfl ?_
  exact hk116 _ _ _ _ _ _ _ _ _ _ _ o0 h hP hS (lv_sub hl [1, 2, 3, 4, 5, 6, 7, 0] rfl)
def B_Model_snapshot_208 (R : Nat → Nat → Nat) (I : St) (k116 : Nat → Int32 → Int32 → Int32 → Int32 → Int32 → Int32 → Int32 → Option Int32) (a0 : Nat) (x1 : Int32) (x2 : Int32) (x3 : Int32) (x4 : Int32) (x6 : Int32) (x7 : Int32) (t0 : Int32) : Option Int32 := B_Model_snapshot_213 R I k116 a0 x1 x2 x3 x4 t0 (x6 + 1) x7
set_option maxHeartbeats 4000000 in
set_option maxRecDepth 100000 in
theorem b_Model_snapshot_208 {p : Program} {l : Launch} {e : Env} {s : State} {m : MethodId} {args : Array Value} {below : List Frame} {meth : Method} {c : Code} {g : Sg} {R : Nat → Nat → Nat} {I : St} {v : Int32} (cx : Cx p s m args meth c g R R_Model b_Model_snapshot 9 (some .int)) {k116 : Nat → Int32 → Int32 → Int32 → Int32 → Int32 → Int32 → Int32 → Option Int32} (hk116 : ∀ (a0 : Nat) (x1 : Int32) (x2 : Int32) (x3 : Int32) (x4 : Int32) (x5 : Int32) (x6 : Int32) (x7 : Int32) (H : Heap) (locs : List Loc) (ls : Array Slot), okA g 5 0 a0 → k116 a0 x1 x2 x3 x4 x5 x6 x7 = some v → wW g R I H → va_S (· ∈ g.L) s.heap H locs → lv_has ls 9 [(0, .ref a0), (1, .int x1), (2, .int x2), (3, .int x3), (4, .int x4), (5, .int x5), (6, .int x6), (7, .int x7)] → W p l e { frames := 3, cells := 0, slots := 0, locals := 74 } s m args below meth c H locs 0 0 (MQ below (Qi g R v I) args s 0 0 (· ∈ g.L)) (F0 m 116 ls [])) : ∀ (a0 : Nat) (x1 : Int32) (x2 : Int32) (x3 : Int32) (x4 : Int32) (x6 : Int32) (x7 : Int32) (t0 : Int32) (H : Heap) (locs : List Loc) (ls : Array Slot), okA g 5 0 a0 → B_Model_snapshot_208 R I k116 a0 x1 x2 x3 x4 x6 x7 t0 = some v → wW g R I H → va_S (· ∈ g.L) s.heap H locs → lv_has ls 9 [(0, .ref a0), (1, .int x1), (2, .int x2), (3, .int x3), (4, .int x4), (6, .int x6), (7, .int x7)] → W p l e { frames := 3, cells := 0, slots := 0, locals := 74 } s m args below meth c H locs 0 0 (MQ below (Qi g R v I) args s 0 0 (· ∈ g.L)) (F0 m 208 ls [.int t0]) := by
  have ⟨hx, hb, hml, hr, hlk, hown, hall, hT, hK⟩ := cx
  intro a0 x1 x2 x3 x4 x6 x7 t0 H locs ls o0 h hP hS hl
  unfold B_Model_snapshot_208 at h
  refine lv_istore (lv' := [(5, .int t0), (0, .ref a0), (1, .int x1), (2, .int x2), (3, .int x3), (4, .int x4), (6, .int x6), (7, .int x7)]) hx hb d_Model_snapshot_208 hl (Nat.le_of_ble_eq_true rfl) rfl (fun ls hl => ?_)
  refine lv_iinc (k := 6) (v := (x6 + 1)) (lv' := [(6, .int (x6 + 1)), (5, .int t0), (0, .ref a0), (1, .int x1), (2, .int x2), (3, .int x3), (4, .int x4), (7, .int x7)]) hx hb d_Model_snapshot_210 hl rfl (by rw [show Int32.ofInt 1 = (1 : Int32) from by decide]) (Nat.le_of_ble_eq_true rfl) rfl (fun ls hl => ?_)
  exact b_Model_snapshot_213 cx hk116 _ _ _ _ _ _ _ _ _ _ _ o0 h hP hS (lv_sub hl [2, 3, 4, 5, 6, 1, 0, 7] rfl)
def B_Model_snapshot_175 (R : Nat → Nat → Nat) (I : St) (k116 : Nat → Int32 → Int32 → Int32 → Int32 → Int32 → Int32 → Int32 → Option Int32) (a0 : Nat) (x1 : Int32) (x2 : Int32) (x3 : Int32) (x4 : Int32) (x5 : Int32) (x6 : Int32) (x7 : Int32) (x8 : Int32) : Option Int32 := (if x3 < x8 then B_Model_snapshot_208 R I k116 a0 x1 x2 x3 x4 x6 x7 x5 else (chk (((60 : Int32) * x1) + x7) 360 ((chk (((8 : Int32) * (I (R a0 14) (((60 : Int32) * x1) + x7).toNatClampNeg)) + x2) 128 (B_Model_snapshot_208 R I k116 a0 x1 x2 x3 x4 x6 x7 (I (R a0 20) (((8 : Int32) * (I (R a0 14) (((60 : Int32) * x1) + x7).toNatClampNeg)) + x2).toNatClampNeg))))))
set_option maxHeartbeats 4000000 in
set_option maxRecDepth 100000 in
theorem b_Model_snapshot_175 {p : Program} {l : Launch} {e : Env} {s : State} {m : MethodId} {args : Array Value} {below : List Frame} {meth : Method} {c : Code} {g : Sg} {R : Nat → Nat → Nat} {I : St} {v : Int32} (cx : Cx p s m args meth c g R R_Model b_Model_snapshot 9 (some .int)) {k116 : Nat → Int32 → Int32 → Int32 → Int32 → Int32 → Int32 → Int32 → Option Int32} (hk116 : ∀ (a0 : Nat) (x1 : Int32) (x2 : Int32) (x3 : Int32) (x4 : Int32) (x5 : Int32) (x6 : Int32) (x7 : Int32) (H : Heap) (locs : List Loc) (ls : Array Slot), okA g 5 0 a0 → k116 a0 x1 x2 x3 x4 x5 x6 x7 = some v → wW g R I H → va_S (· ∈ g.L) s.heap H locs → lv_has ls 9 [(0, .ref a0), (1, .int x1), (2, .int x2), (3, .int x3), (4, .int x4), (5, .int x5), (6, .int x6), (7, .int x7)] → W p l e { frames := 3, cells := 0, slots := 0, locals := 74 } s m args below meth c H locs 0 0 (MQ below (Qi g R v I) args s 0 0 (· ∈ g.L)) (F0 m 116 ls [])) : ∀ (a0 : Nat) (x1 : Int32) (x2 : Int32) (x3 : Int32) (x4 : Int32) (x5 : Int32) (x6 : Int32) (x7 : Int32) (x8 : Int32) (H : Heap) (locs : List Loc) (ls : Array Slot), okA g 5 0 a0 → B_Model_snapshot_175 R I k116 a0 x1 x2 x3 x4 x5 x6 x7 x8 = some v → wW g R I H → va_S (· ∈ g.L) s.heap H locs → lv_has ls 9 [(0, .ref a0), (1, .int x1), (2, .int x2), (3, .int x3), (4, .int x4), (5, .int x5), (6, .int x6), (7, .int x7), (8, .int x8)] → W p l e { frames := 3, cells := 0, slots := 0, locals := 74 } s m args below meth c H locs 0 0 (MQ below (Qi g R v I) args s 0 0 (· ∈ g.L)) (F0 m 175 ls []) := by
  have ⟨hx, hb, hml, hr, hlk, hown, hall, hT, hK⟩ := cx
  intro a0 x1 x2 x3 x4 x5 x6 x7 x8 H locs ls o0 h hP hS hl
  unfold B_Model_snapshot_175 at h
  refine lv_iload hx hb d_Model_snapshot_175 (lv_at hl 8 rfl) ?_
  refine lv_iload_n hx hb d_Model_snapshot_177 rfl (lv_at hl 3 rfl) ?_
  refine lv_icmp_gt hx hb d_Model_snapshot_178 rfl (fun hc => ?_) (fun hc => ?_)
  · replace h := i_pos hc h
    refine lv_iload hx hb d_Model_snapshot_206 (lv_at hl 5 rfl) ?_
    exact b_Model_snapshot_208 cx hk116 _ _ _ _ _ _ _ _ _ _ _ o0 h hP hS (lv_sub hl [0, 1, 2, 3, 4, 6, 7] rfl)
  · replace h := i_neg hc h
    refine lv_aload_n hx hb d_Model_snapshot_181 rfl (lv_at hl 0 rfl) ?_
    refine gg_get (C := R_Model) (T := F_Model) (N := 23) (ci := 5) hx hb hall i_Model hown hK hP o0.1 (wE_5 o0.2) rfl 20 (by decide) (hall _ m_445) (fun _ h9 => h9) rfl d_Model_snapshot_182 ?_
    have o_182 : okA g 6 128 (R a0 20) := ty_Model_20 hT o0
    refine lv_bipush (v := 8) hx hb d_Model_snapshot_185 (by decide) ?_
    refine lv_aload_n hx hb d_Model_snapshot_187 rfl (lv_at hl 0 rfl) ?_
    refine gg_get (C := R_Model) (T := F_Model) (N := 23) (ci := 5) hx hb hall i_Model hown hK hP o0.1 (wE_5 o0.2) rfl 14 (by decide) (hall _ m_370) (fun _ h9 => h9) rfl d_Model_snapshot_188 ?_
    have o_188 : okA g 6 360 (R a0 14) := ty_Model_14 hT o0
    refine lv_bipush (v := 60) hx hb d_Model_snapshot_191 (by decide) ?_
    refine lv_iload_n hx hb d_Model_snapshot_193 rfl (lv_at hl 1 rfl) ?_
    refine lv_imul hx hb d_Model_snapshot_194 ?_
    refine lv_iload hx hb d_Model_snapshot_195 (lv_at hl 7 rfl) ?_
    refine lv_iadd hx hb d_Model_snapshot_197 ?_
    obtain ⟨hi198, h⟩ := chk_el h
    refine gg_iald hx hb hK hP o_188 hi198 d_Model_snapshot_198 ?_
    refine lv_imul hx hb d_Model_snapshot_199 ?_
    refine lv_iload_n hx hb d_Model_snapshot_200 rfl (lv_at hl 2 rfl) ?_
    refine lv_iadd hx hb d_Model_snapshot_201 ?_
    obtain ⟨hi202, h⟩ := chk_el h
    refine gg_iald hx hb hK hP o_182 hi202 d_Model_snapshot_202 ?_
    refine lv_goto hx hb d_Model_snapshot_203 rfl ?_
    exact b_Model_snapshot_208 cx hk116 _ _ _ _ _ _ _ _ _ _ _ o0 h hP hS (lv_sub hl [0, 1, 2, 3, 4, 6, 7] rfl)
def B_Model_snapshot_116 (R : Nat → Nat → Nat) (I : St) : Nat → Nat → Int32 → Int32 → Int32 → Int32 → Int32 → Int32 → Int32 → Option Int32
  | 0, _, _, _, _, _, _, _, _ => none
  | f + 1, a0, x1, x2, x3, x4, x5, x6, x7 => (chk x1 6 ((if (I (R a0 10) x1.toNatClampNeg) ≤ x7 then some x5 else (ob (F_Model_isVersion R a0 x1 x7 x2 I) (fun v132 => (if v132 = 0 then B_Model_snapshot_213 R I (B_Model_snapshot_116 R I f) a0 x1 x2 x3 x4 x5 x6 x7 else (ob (F_Model_versionStamp R a0 (((60 : Int32) * x1) + x7) I) (fun v146 => (if x4 ≤ (3 : Int32) then B_Model_snapshot_175 R I (B_Model_snapshot_116 R I f) a0 x1 x2 x3 x4 x5 x6 x7 v146 else (if x6 = (x4 - (3 : Int32)) then (if v146 ≤ x3 then B_Model_snapshot_175 R I (B_Model_snapshot_116 R I f) a0 x1 x2 x3 x4 x5 x6 x7 v146 else some (-8 : Int32)) else B_Model_snapshot_175 R I (B_Model_snapshot_116 R I f) a0 x1 x2 x3 x4 x5 x6 x7 v146))))))))))
set_option maxHeartbeats 4000000 in
set_option maxRecDepth 100000 in
theorem b_Model_snapshot_116 {p : Program} {l : Launch} {e : Env} {s : State} {m : MethodId} {args : Array Value} {below : List Frame} {meth : Method} {c : Code} {g : Sg} {R : Nat → Nat → Nat} {I : St} {v : Int32} (cx : Cx p s m args meth c g R R_Model b_Model_snapshot 9 (some .int)) (f : Nat) : ∀ (a0 : Nat) (x1 : Int32) (x2 : Int32) (x3 : Int32) (x4 : Int32) (x5 : Int32) (x6 : Int32) (x7 : Int32) (H : Heap) (locs : List Loc) (ls : Array Slot), okA g 5 0 a0 → B_Model_snapshot_116 R I f a0 x1 x2 x3 x4 x5 x6 x7 = some v → wW g R I H → va_S (· ∈ g.L) s.heap H locs → lv_has ls 9 [(0, .ref a0), (1, .int x1), (2, .int x2), (3, .int x3), (4, .int x4), (5, .int x5), (6, .int x6), (7, .int x7)] → W p l e { frames := 3, cells := 0, slots := 0, locals := 74 } s m args below meth c H locs 0 0 (MQ below (Qi g R v I) args s 0 0 (· ∈ g.L)) (F0 m 116 ls []) := by
  have ⟨hx, hb, hml, hr, hlk, hown, hall, hT, hK⟩ := cx
  induction f with
  | zero => intro a0 x1 x2 x3 x4 x5 x6 x7 H locs ls o0 h; unfold B_Model_snapshot_116 at h; cases h
  | succ f ih =>
    intro a0 x1 x2 x3 x4 x5 x6 x7 H locs ls o0 h hP hS hl
    unfold B_Model_snapshot_116 at h
    refine lv_iload hx hb d_Model_snapshot_116 (lv_at hl 7 rfl) ?_
    refine lv_aload_n hx hb d_Model_snapshot_118 rfl (lv_at hl 0 rfl) ?_
    refine gg_get (C := R_Model) (T := F_Model) (N := 23) (ci := 5) hx hb hall i_Model hown hK hP o0.1 (wE_5 o0.2) rfl 10 (by decide) (hall _ m_349) (fun _ h9 => h9) rfl d_Model_snapshot_119 ?_
    have o_119 : okA g 6 6 (R a0 10) := ty_Model_10 hT o0
    refine lv_iload_n hx hb d_Model_snapshot_122 rfl (lv_at hl 1 rfl) ?_
    obtain ⟨hi123, h⟩ := chk_el h
    refine gg_iald hx hb hK hP o_119 hi123 d_Model_snapshot_123 ?_
    refine lv_icmp_ge hx hb d_Model_snapshot_124 rfl (fun hc => ?_) (fun hc => ?_)
    · replace h := i_pos hc h
      refine lv_iload hx hb d_Model_snapshot_219 (lv_at hl 5 rfl) ?_
      obtain rfl := Option.some.inj h
      exact gg_iret hx hb hr hlk hK hP hS d_Model_snapshot_221
    · replace h := i_neg hc h
      refine lv_aload_n hx hb d_Model_snapshot_127 rfl (lv_at hl 0 rfl) ?_
      refine lv_iload_n hx hb d_Model_snapshot_128 rfl (lv_at hl 1 rfl) ?_
      refine lv_iload hx hb d_Model_snapshot_129 (lv_at hl 7 rfl) ?_
      refine lv_iload_n hx hb d_Model_snapshot_131 rfl (lv_at hl 2 rfl) ?_
      obtain ⟨v132, e132, h⟩ := ob_el h
      refine gg_Vi (As := [.int x1, .int x7, .int x2]) (rest := []) (ci := 5) (C := R_Model) (T := F_Model) (N := 23) ⟨hx, hb, hml, hown, hall⟩ (c_Model_isVersion l hT o0 e132) (cwV 3 hall (gV m_442 m_443 m_444 m_338 m_440) rfl rfl rfl (by decide +kernel) ⟨Nat.le_of_ble_eq_true rfl, Nat.le_of_ble_eq_true rfl⟩) hK hP hS o0.1 (wE_5 o0.2) rfl rfl hl.1 rfl (Nat.le_of_ble_eq_true rfl) d_Model_snapshot_132 (fun H locs hP hS => ?_)
      refine lv_if_eq hx hb d_Model_snapshot_135 rfl (fun hc => ?_) (fun hc => ?_)
      · replace h := i_pos hc h
        exact b_Model_snapshot_213 cx ih _ _ _ _ _ _ _ _ _ _ _ o0 h hP hS (lv_sub hl [0, 1, 2, 3, 4, 5, 6, 7] rfl)
      · replace h := i_neg hc h
        refine lv_aload_n hx hb d_Model_snapshot_138 rfl (lv_at hl 0 rfl) ?_
        refine lv_bipush (v := 60) hx hb d_Model_snapshot_139 (by decide) ?_
        refine lv_iload_n hx hb d_Model_snapshot_141 rfl (lv_at hl 1 rfl) ?_
        refine lv_imul hx hb d_Model_snapshot_142 ?_
        refine lv_iload hx hb d_Model_snapshot_143 (lv_at hl 7 rfl) ?_
        refine lv_iadd hx hb d_Model_snapshot_145 ?_
        obtain ⟨v146, e146, h⟩ := ob_el h
        refine gg_Vi (As := [.int (((60 : Int32) * x1) + x7)]) (rest := []) (ci := 5) (C := R_Model) (T := F_Model) (N := 23) ⟨hx, hb, hml, hown, hall⟩ (c_Model_versionStamp l hT o0 e146) (cwV 1 hall (gV m_485 m_486 m_487 m_338 m_441) rfl rfl rfl (by decide +kernel) ⟨Nat.le_of_ble_eq_true rfl, Nat.le_of_ble_eq_true rfl⟩) hK hP hS o0.1 (wE_5 o0.2) rfl rfl hl.1 rfl (Nat.le_of_ble_eq_true rfl) d_Model_snapshot_146 (fun H locs hP hS => ?_)
        refine lv_istore (lv' := [(8, .int v146), (0, .ref a0), (1, .int x1), (2, .int x2), (3, .int x3), (4, .int x4), (5, .int x5), (6, .int x6), (7, .int x7)]) hx hb d_Model_snapshot_149 hl (Nat.le_of_ble_eq_true rfl) rfl (fun ls hl => ?_)
        refine lv_iload hx hb d_Model_snapshot_151 (lv_at hl 5 rfl) ?_
        refine lv_iconst (v := 3) hx hb d_Model_snapshot_153 (by decide) ?_
        refine lv_icmp_le hx hb d_Model_snapshot_154 rfl (fun hc => ?_) (fun hc => ?_)
        · replace h := i_pos hc h
          exact b_Model_snapshot_175 cx ih _ _ _ _ _ _ _ _ _ _ _ _ o0 h hP hS (lv_sub hl [1, 2, 3, 4, 5, 6, 7, 8, 0] rfl)
        · replace h := i_neg hc h
          refine lv_iload hx hb d_Model_snapshot_157 (lv_at hl 7 rfl) ?_
          refine lv_iload hx hb d_Model_snapshot_159 (lv_at hl 5 rfl) ?_
          refine lv_iconst (v := 3) hx hb d_Model_snapshot_161 (by decide) ?_
          refine lv_isub hx hb d_Model_snapshot_162 ?_
          refine lv_icmp_ne hx hb d_Model_snapshot_163 rfl (fun hc => ?_) (fun hc => ?_)
          · replace h := i_neg hc h
            exact b_Model_snapshot_175 cx ih _ _ _ _ _ _ _ _ _ _ _ _ o0 h hP hS (lv_sub hl [1, 2, 3, 4, 5, 6, 7, 8, 0] rfl)
          · replace h := i_pos hc h
            refine lv_iload_n hx hb d_Model_snapshot_166 rfl (lv_at hl 4 rfl) ?_
            refine lv_iload hx hb d_Model_snapshot_167 (lv_at hl 0 rfl) ?_
            refine lv_icmp_ge hx hb d_Model_snapshot_169 rfl (fun hc => ?_) (fun hc => ?_)
            · replace h := i_pos hc h
              exact b_Model_snapshot_175 cx ih _ _ _ _ _ _ _ _ _ _ _ _ o0 h hP hS (lv_sub hl [1, 2, 3, 4, 5, 6, 7, 8, 0] rfl)
            · replace h := i_neg hc h
              refine lv_bipush (v := (-8)) hx hb d_Model_snapshot_172 (by decide) ?_
              obtain rfl := Option.some.inj h
              exact gg_iret hx hb hr hlk hK hP hS d_Model_snapshot_174
def B_Model_snapshot_69 (R : Nat → Nat → Nat) (I : St) : Nat → Nat → Int32 → Int32 → Int32 → Int32 → Int32 → Option Int32
  | 0, _, _, _, _, _, _ => none
  | f + 1, a0, x1, x2, x3, x4, x5 => (chk x1 6 ((if (I (R a0 10) x1.toNatClampNeg) ≤ x5 then B_Model_snapshot_116 R I 100 a0 x1 x2 x3 x4 (0 : Int32) (0 : Int32) (0 : Int32) else (ob (F_Model_isVersion R a0 x1 x5 x2 I) (fun v87 => (if v87 = 0 then B_Model_snapshot_98 R I (B_Model_snapshot_69 R I f) a0 x1 x2 x3 x5 x4 (0 : Int32) else B_Model_snapshot_98 R I (B_Model_snapshot_69 R I f) a0 x1 x2 x3 x5 x4 (1 : Int32)))))))
set_option maxHeartbeats 4000000 in
set_option maxRecDepth 100000 in
theorem b_Model_snapshot_69 {p : Program} {l : Launch} {e : Env} {s : State} {m : MethodId} {args : Array Value} {below : List Frame} {meth : Method} {c : Code} {g : Sg} {R : Nat → Nat → Nat} {I : St} {v : Int32} (cx : Cx p s m args meth c g R R_Model b_Model_snapshot 9 (some .int)) (f : Nat) : ∀ (a0 : Nat) (x1 : Int32) (x2 : Int32) (x3 : Int32) (x4 : Int32) (x5 : Int32) (H : Heap) (locs : List Loc) (ls : Array Slot), okA g 5 0 a0 → B_Model_snapshot_69 R I f a0 x1 x2 x3 x4 x5 = some v → wW g R I H → va_S (· ∈ g.L) s.heap H locs → lv_has ls 9 [(0, .ref a0), (1, .int x1), (2, .int x2), (3, .int x3), (4, .int x4), (5, .int x5)] → W p l e { frames := 3, cells := 0, slots := 0, locals := 74 } s m args below meth c H locs 0 0 (MQ below (Qi g R v I) args s 0 0 (· ∈ g.L)) (F0 m 69 ls []) := by
  have ⟨hx, hb, hml, hr, hlk, hown, hall, hT, hK⟩ := cx
  induction f with
  | zero => intro a0 x1 x2 x3 x4 x5 H locs ls o0 h; unfold B_Model_snapshot_69 at h; cases h
  | succ f ih =>
    intro a0 x1 x2 x3 x4 x5 H locs ls o0 h hP hS hl
    unfold B_Model_snapshot_69 at h
    refine lv_iload hx hb d_Model_snapshot_69 (lv_at hl 5 rfl) ?_
    refine lv_aload_n hx hb d_Model_snapshot_71 rfl (lv_at hl 0 rfl) ?_
    refine gg_get (C := R_Model) (T := F_Model) (N := 23) (ci := 5) hx hb hall i_Model hown hK hP o0.1 (wE_5 o0.2) rfl 10 (by decide) (hall _ m_349) (fun _ h9 => h9) rfl d_Model_snapshot_72 ?_
    have o_72 : okA g 6 6 (R a0 10) := ty_Model_10 hT o0
    refine lv_iload_n hx hb d_Model_snapshot_75 rfl (lv_at hl 1 rfl) ?_
    obtain ⟨hi76, h⟩ := chk_el h
    refine gg_iald hx hb hK hP o_72 hi76 d_Model_snapshot_76 ?_
    refine lv_icmp_ge hx hb d_Model_snapshot_77 rfl (fun hc => ?_) (fun hc => ?_)
    · replace h := i_pos hc h
      refine lv_iconst (v := 0) hx hb d_Model_snapshot_107 (by decide) ?_
      refine lv_istore (lv' := [(5, .int (0 : Int32)), (0, .ref a0), (1, .int x1), (2, .int x2), (3, .int x3), (4, .int x4)]) hx hb d_Model_snapshot_108 hl (Nat.le_of_ble_eq_true rfl) rfl (fun ls hl => ?_)
      refine lv_iconst (v := 0) hx hb d_Model_snapshot_110 (by decide) ?_
      refine lv_istore (lv' := [(6, .int (0 : Int32)), (5, .int (0 : Int32)), (0, .ref a0), (1, .int x1), (2, .int x2), (3, .int x3), (4, .int x4)]) hx hb d_Model_snapshot_111 hl (Nat.le_of_ble_eq_true rfl) rfl (fun ls hl => ?_)
      refine lv_iconst (v := 0) hx hb d_Model_snapshot_113 (by decide) ?_
      refine lv_istore (lv' := [(7, .int (0 : Int32)), (6, .int (0 : Int32)), (5, .int (0 : Int32)), (0, .ref a0), (1, .int x1), (2, .int x2), (3, .int x3), (4, .int x4)]) hx hb d_Model_snapshot_114 hl (Nat.le_of_ble_eq_true rfl) rfl (fun ls hl => ?_)
      exact b_Model_snapshot_116 cx 100 _ _ _ _ _ _ _ _ _ _ _ o0 h hP hS (lv_sub hl [3, 4, 5, 6, 7, 2, 1, 0] rfl)
    · replace h := i_neg hc h
      refine lv_iload hx hb d_Model_snapshot_80 (lv_at hl 4 rfl) ?_
      refine lv_aload_n hx hb d_Model_snapshot_82 rfl (lv_at hl 0 rfl) ?_
      refine lv_iload_n hx hb d_Model_snapshot_83 rfl (lv_at hl 1 rfl) ?_
      refine lv_iload hx hb d_Model_snapshot_84 (lv_at hl 5 rfl) ?_
      refine lv_iload_n hx hb d_Model_snapshot_86 rfl (lv_at hl 2 rfl) ?_
      obtain ⟨v87, e87, h⟩ := ob_el h
      refine gg_Vi (As := [.int x1, .int x5, .int x2]) (rest := [.int x4]) (ci := 5) (C := R_Model) (T := F_Model) (N := 23) ⟨hx, hb, hml, hown, hall⟩ (c_Model_isVersion l hT o0 e87) (cwV 3 hall (gV m_442 m_443 m_444 m_338 m_440) rfl rfl rfl (by decide +kernel) ⟨Nat.le_of_ble_eq_true rfl, Nat.le_of_ble_eq_true rfl⟩) hK hP hS o0.1 (wE_5 o0.2) rfl rfl hl.1 rfl (Nat.le_of_ble_eq_true rfl) d_Model_snapshot_87 (fun H locs hP hS => ?_)
      refine lv_if_eq hx hb d_Model_snapshot_90 rfl (fun hc => ?_) (fun hc => ?_)
      · replace h := i_pos hc h
        refine lv_iconst (v := 0) hx hb d_Model_snapshot_97 (by decide) ?_
        exact b_Model_snapshot_98 cx ih _ _ _ _ _ _ _ _ _ _ o0 h hP hS (lv_sub hl [0, 1, 2, 3, 5] rfl)
      · replace h := i_neg hc h
        refine lv_iconst (v := 1) hx hb d_Model_snapshot_93 (by decide) ?_
        refine lv_goto hx hb d_Model_snapshot_94 rfl ?_
        exact b_Model_snapshot_98 cx ih _ _ _ _ _ _ _ _ _ _ o0 h hP hS (lv_sub hl [0, 1, 2, 3, 5] rfl)
def F_Model_snapshot (R : Nat → Nat → Nat) (a0 : Nat) (x1 : Int32) (x2 : Int32) (x3 : Int32) (I : St) : Option Int32 := (ob (F_Model_below R x1 (6 : Int32) I) (fun v3 => (if v3 = 0 then B_Model_snapshot_40 R I else (ob (F_Model_below R x2 (8 : Int32) I) (fun v12 => (if v12 = 0 then B_Model_snapshot_40 R I else (if (x2 / (4 : Int32)) = (x1 / (3 : Int32)) then (chk x1 6 ((if (I (R a0 2) x1.toNatClampNeg) = 0 then (if 0 ≤ x3 then (chk x1 6 ((if (I (R a0 10) x1.toNatClampNeg) = 0 then B_Model_snapshot_60 R I else (ob (F_Model_safe R a0 x1 I) (fun v54 => (if x3 ≤ v54 then B_Model_snapshot_69 R I 100 a0 x1 x2 x3 (0 : Int32) (0 : Int32) else B_Model_snapshot_60 R I)))))) else B_Model_snapshot_40 R I) else B_Model_snapshot_40 R I))) else B_Model_snapshot_40 R I)))))))
set_option maxHeartbeats 4000000 in
set_option maxRecDepth 100000 in
theorem c_Model_snapshot (l : Launch) {g : Sg} {R : Nat → Nat → Nat} (hT : Ty g R) {a0 : Nat} (o0 : okA g 5 0 a0) {x1 : Int32} {x2 : Int32} {x3 : Int32} {I : St} {v : Int32} (h : F_Model_snapshot R a0 x1 x2 x3 I = some v) : Cti l g R y_Model_snapshot w_Model_snapshot 3 74 [.ref a0, .int x1, .int x2, .int x3] I v I := by
  unfold Cti
  refine Met.ofW (cc := b_Model_snapshot) (maxL := 9) (ret := (some .int)) (by decide) rfl ?_
  intro p e s m args below meth c s₁ B hml hv
  obtain ⟨rfl, hP, hK⟩ := hv
  have hts := atoms_spec (ws := w_Model_snapshot) B.pre
  have hall : ∀ w ∈ w_all, w.before _ s = true := fun w hw => hts w (List.mem_cons_of_mem _ hw)
  have hown : s.vm.findClass R_Model = some m.cls := findClass_of_methodNamed B.named
  have hx := B.exec
  have hb := B.bytes
  have hr := B.returns
  have hlk := B.notSynchronized
  have cx : Cx p s m _ meth c g R R_Model b_Model_snapshot 9 (some .int) := ⟨hx, hb, hml, hr, hlk, hown, hall, hT, hK⟩
  have hl := lv_entry ([.ref a0, .int x1, .int x2, .int x3]) (n := 9) (Nat.le_of_ble_eq_true rfl)
  rw [lg_entry_eq]
  generalize (lg_sl ([.ref a0, .int x1, .int x2, .int x3]) ++ List.replicate (9 - (lg_sl ([.ref a0, .int x1, .int x2, .int x3])).length) Slot.unset).toArray = ls at hl ⊢
  have hl : lv_has ls 9 [(0, .ref a0), (1, .int x1), (2, .int x2), (3, .int x3)] := hl
  have hS : va_S (· ∈ g.L) s.heap s.heap [] := va_S.rf
  unfold F_Model_snapshot at h
  refine lv_iload_n hx hb d_Model_snapshot_0 rfl (lv_at hl 1 rfl) ?_
  refine lv_bipush (v := 6) hx hb d_Model_snapshot_1 (by decide) ?_
  obtain ⟨v3, e3, h⟩ := ob_el h
  refine gg_Si (As := [.int x1, .int (6 : Int32)]) (rest := []) ⟨hx, hb, hml, hown, hall⟩ (c_Model_below l hT e3) (cwS 2 hall (gS m_336 m_337 m_338 m_329) rfl rfl rfl (by decide +kernel) ⟨Nat.le_of_ble_eq_true rfl, Nat.le_of_ble_eq_true rfl⟩) hK hP hS rfl hl.1 rfl (Nat.le_of_ble_eq_true rfl) d_Model_snapshot_3 (fun H locs hP hS => ?_)
  refine lv_if_eq hx hb d_Model_snapshot_6 rfl (fun hc => ?_) (fun hc => ?_)
  · replace h := i_pos hc h
    exact b_Model_snapshot_40 cx _ _ _ h hP hS (lv_sub hl [] rfl)
  · replace h := i_neg hc h
    refine lv_iload_n hx hb d_Model_snapshot_9 rfl (lv_at hl 2 rfl) ?_
    refine lv_bipush (v := 8) hx hb d_Model_snapshot_10 (by decide) ?_
    obtain ⟨v12, e12, h⟩ := ob_el h
    refine gg_Si (As := [.int x2, .int (8 : Int32)]) (rest := []) ⟨hx, hb, hml, hown, hall⟩ (c_Model_below l hT e12) (cwS 2 hall (gS m_336 m_337 m_338 m_329) rfl rfl rfl (by decide +kernel) ⟨Nat.le_of_ble_eq_true rfl, Nat.le_of_ble_eq_true rfl⟩) hK hP hS rfl hl.1 rfl (Nat.le_of_ble_eq_true rfl) d_Model_snapshot_12 (fun H locs hP hS => ?_)
    refine lv_if_eq hx hb d_Model_snapshot_15 rfl (fun hc => ?_) (fun hc => ?_)
    · replace h := i_pos hc h
      exact b_Model_snapshot_40 cx _ _ _ h hP hS (lv_sub hl [] rfl)
    · replace h := i_neg hc h
      refine lv_iload_n hx hb d_Model_snapshot_18 rfl (lv_at hl 2 rfl) ?_
      refine lv_iconst (v := 4) hx hb d_Model_snapshot_19 (by decide) ?_
      refine lv_idiv hx hb d_Model_snapshot_20 (by decide) ?_
      refine lv_iload_n hx hb d_Model_snapshot_21 rfl (lv_at hl 1 rfl) ?_
      refine lv_iconst (v := 3) hx hb d_Model_snapshot_22 (by decide) ?_
      refine lv_idiv hx hb d_Model_snapshot_23 (by decide) ?_
      refine lv_icmp_ne hx hb d_Model_snapshot_24 rfl (fun hc => ?_) (fun hc => ?_)
      · replace h := i_neg hc h
        exact b_Model_snapshot_40 cx _ _ _ h hP hS (lv_sub hl [] rfl)
      · replace h := i_pos hc h
        refine lv_aload_n hx hb d_Model_snapshot_27 rfl (lv_at hl 0 rfl) ?_
        refine gg_get (C := R_Model) (T := F_Model) (N := 23) (ci := 5) hx hb hall i_Model hown hK hP o0.1 (wE_5 o0.2) rfl 2 (by decide) (hall _ m_340) (fun _ h9 => h9) rfl d_Model_snapshot_28 ?_
        have o_28 : okA g 7 6 (R a0 2) := ty_Model_2 hT o0
        refine lv_iload_n hx hb d_Model_snapshot_31 rfl (lv_at hl 1 rfl) ?_
        obtain ⟨hi32, h⟩ := chk_el h
        refine gg_zald hx hb hK hP o_28 hi32 d_Model_snapshot_32 ?_
        refine lv_if_ne hx hb d_Model_snapshot_33 rfl (fun hc => ?_) (fun hc => ?_)
        · replace h := i_neg hc h
          exact b_Model_snapshot_40 cx _ _ _ h hP hS (lv_sub hl [] rfl)
        · replace h := i_pos hc h
          refine lv_iload_n hx hb d_Model_snapshot_36 rfl (lv_at hl 3 rfl) ?_
          refine lv_if_ge hx hb d_Model_snapshot_37 rfl (fun hc => ?_) (fun hc => ?_)
          · replace h := i_pos hc h
            refine lv_aload_n hx hb d_Model_snapshot_42 rfl (lv_at hl 0 rfl) ?_
            refine gg_get (C := R_Model) (T := F_Model) (N := 23) (ci := 5) hx hb hall i_Model hown hK hP o0.1 (wE_5 o0.2) rfl 10 (by decide) (hall _ m_349) (fun _ h9 => h9) rfl d_Model_snapshot_43 ?_
            have o_43 : okA g 6 6 (R a0 10) := ty_Model_10 hT o0
            refine lv_iload_n hx hb d_Model_snapshot_46 rfl (lv_at hl 1 rfl) ?_
            obtain ⟨hi47, h⟩ := chk_el h
            refine gg_iald hx hb hK hP o_43 hi47 d_Model_snapshot_47 ?_
            refine lv_if_eq hx hb d_Model_snapshot_48 rfl (fun hc => ?_) (fun hc => ?_)
            · replace h := i_pos hc h
              exact b_Model_snapshot_60 cx _ _ _ h hP hS (lv_sub hl [] rfl)
            · replace h := i_neg hc h
              refine lv_iload_n hx hb d_Model_snapshot_51 rfl (lv_at hl 3 rfl) ?_
              refine lv_aload_n hx hb d_Model_snapshot_52 rfl (lv_at hl 0 rfl) ?_
              refine lv_iload_n hx hb d_Model_snapshot_53 rfl (lv_at hl 1 rfl) ?_
              obtain ⟨v54, e54, h⟩ := ob_el h
              refine gg_Vi (As := [.int x1]) (rest := [.int x3]) (ci := 5) (C := R_Model) (T := F_Model) (N := 23) ⟨hx, hb, hml, hown, hall⟩ (c_Model_safe l hT o0 e54) (cwV 1 hall (gV m_488 m_489 m_490 m_338 m_484) rfl rfl rfl (by decide +kernel) ⟨Nat.le_of_ble_eq_true rfl, Nat.le_of_ble_eq_true rfl⟩) hK hP hS o0.1 (wE_5 o0.2) rfl rfl hl.1 rfl (Nat.le_of_ble_eq_true rfl) d_Model_snapshot_54 (fun H locs hP hS => ?_)
              refine lv_icmp_le hx hb d_Model_snapshot_57 rfl (fun hc => ?_) (fun hc => ?_)
              · replace h := i_pos hc h
                refine lv_iconst (v := 0) hx hb d_Model_snapshot_63 (by decide) ?_
                refine lv_istore (lv' := [(4, .int (0 : Int32)), (0, .ref a0), (1, .int x1), (2, .int x2), (3, .int x3)]) hx hb d_Model_snapshot_64 hl (Nat.le_of_ble_eq_true rfl) rfl (fun ls hl => ?_)
                refine lv_iconst (v := 0) hx hb d_Model_snapshot_66 (by decide) ?_
                refine lv_istore (lv' := [(5, .int (0 : Int32)), (4, .int (0 : Int32)), (0, .ref a0), (1, .int x1), (2, .int x2), (3, .int x3)]) hx hb d_Model_snapshot_67 hl (Nat.le_of_ble_eq_true rfl) rfl (fun ls hl => ?_)
                exact b_Model_snapshot_69 cx 100 _ _ _ _ _ _ _ _ _ o0 h hP hS (lv_sub hl [2, 3, 4, 5, 1, 0] rfl)
              · replace h := i_neg hc h
                exact b_Model_snapshot_60 cx _ _ _ h hP hS (lv_sub hl [] rfl)
          · replace h := i_neg hc h
            exact b_Model_snapshot_40 cx _ _ _ h hP hS (lv_sub hl [] rfl)
abbrev b_Model_length : ByteArray := prog_7_method_50_code
def y_Model_length : MethodName := ⟨"StampedStoreModel", "length", "(I)I"⟩
def w_Model_length : List Cond := .code y_Model_length b_Model_length 2 (some .int) :: w_all
theorem d_Model_length_0 : decode b_Model_length 0 = .ok (.iload_n 1, 1) := by decide +kernel
theorem d_Model_length_1 : decode b_Model_length 1 = .ok (.bipush 6, 2) := by decide +kernel
theorem d_Model_length_3 : decode b_Model_length 3 = .ok (.invokestatic 78, 3) := by decide +kernel
theorem d_Model_length_6 : decode b_Model_length 6 = .ok (.ifCond .eq 12, 3) := by decide +kernel
theorem d_Model_length_9 : decode b_Model_length 9 = .ok (.aload_n 0, 1) := by decide +kernel
theorem d_Model_length_10 : decode b_Model_length 10 = .ok (.getfield 32, 3) := by decide +kernel
theorem d_Model_length_13 : decode b_Model_length 13 = .ok (.iload_n 1, 1) := by decide +kernel
theorem d_Model_length_14 : decode b_Model_length 14 = .ok (.iaload, 1) := by decide +kernel
theorem d_Model_length_15 : decode b_Model_length 15 = .ok (.goto 4, 3) := by decide +kernel
theorem d_Model_length_18 : decode b_Model_length 18 = .ok (.iconst (-1), 1) := by decide +kernel
theorem d_Model_length_19 : decode b_Model_length 19 = .ok (.ireturn, 1) := by decide +kernel
def F_Model_length (R : Nat → Nat → Nat) (a0 : Nat) (x1 : Int32) (I : St) : Option Int32 := (ob (F_Model_below R x1 (6 : Int32) I) (fun v3 => (if v3 = 0 then some (-1 : Int32) else (chk x1 6 (some (I (R a0 9) x1.toNatClampNeg))))))
set_option maxHeartbeats 4000000 in
set_option maxRecDepth 100000 in
theorem c_Model_length (l : Launch) {g : Sg} {R : Nat → Nat → Nat} (hT : Ty g R) {a0 : Nat} (o0 : okA g 5 0 a0) {x1 : Int32} {I : St} {v : Int32} (h : F_Model_length R a0 x1 I = some v) : Cti l g R y_Model_length w_Model_length 1 21 [.ref a0, .int x1] I v I := by
  unfold Cti
  refine Met.ofW (cc := b_Model_length) (maxL := 2) (ret := (some .int)) (by decide) rfl ?_
  intro p e s m args below meth c s₁ B hml hv
  obtain ⟨rfl, hP, hK⟩ := hv
  have hts := atoms_spec (ws := w_Model_length) B.pre
  have hall : ∀ w ∈ w_all, w.before _ s = true := fun w hw => hts w (List.mem_cons_of_mem _ hw)
  have hown : s.vm.findClass R_Model = some m.cls := findClass_of_methodNamed B.named
  have hx := B.exec
  have hb := B.bytes
  have hr := B.returns
  have hlk := B.notSynchronized
  have cx : Cx p s m _ meth c g R R_Model b_Model_length 2 (some .int) := ⟨hx, hb, hml, hr, hlk, hown, hall, hT, hK⟩
  have hl := lv_entry ([.ref a0, .int x1]) (n := 2) (Nat.le_of_ble_eq_true rfl)
  rw [lg_entry_eq]
  generalize (lg_sl ([.ref a0, .int x1]) ++ List.replicate (2 - (lg_sl ([.ref a0, .int x1])).length) Slot.unset).toArray = ls at hl ⊢
  have hl : lv_has ls 2 [(0, .ref a0), (1, .int x1)] := hl
  have hS : va_S (· ∈ g.L) s.heap s.heap [] := va_S.rf
  unfold F_Model_length at h
  refine lv_iload_n hx hb d_Model_length_0 rfl (lv_at hl 1 rfl) ?_
  refine lv_bipush (v := 6) hx hb d_Model_length_1 (by decide) ?_
  obtain ⟨v3, e3, h⟩ := ob_el h
  refine gg_Si (As := [.int x1, .int (6 : Int32)]) (rest := []) ⟨hx, hb, hml, hown, hall⟩ (c_Model_below l hT e3) (cwS 2 hall (gS m_336 m_337 m_338 m_329) rfl rfl rfl (by decide +kernel) ⟨Nat.le_of_ble_eq_true rfl, Nat.le_of_ble_eq_true rfl⟩) hK hP hS rfl hl.1 rfl (Nat.le_of_ble_eq_true rfl) d_Model_length_3 (fun H locs hP hS => ?_)
  refine lv_if_eq hx hb d_Model_length_6 rfl (fun hc => ?_) (fun hc => ?_)
  · replace h := i_pos hc h
    refine lv_iconst (v := (-1)) hx hb d_Model_length_18 (by decide) ?_
    obtain rfl := Option.some.inj h
    exact gg_iret hx hb hr hlk hK hP hS d_Model_length_19
  · replace h := i_neg hc h
    refine lv_aload_n hx hb d_Model_length_9 rfl (lv_at hl 0 rfl) ?_
    refine gg_get (C := R_Model) (T := F_Model) (N := 23) (ci := 5) hx hb hall i_Model hown hK hP o0.1 (wE_5 o0.2) rfl 9 (by decide) (hall _ m_366) (fun _ h9 => h9) rfl d_Model_length_10 ?_
    have o_10 : okA g 6 6 (R a0 9) := ty_Model_9 hT o0
    refine lv_iload_n hx hb d_Model_length_13 rfl (lv_at hl 1 rfl) ?_
    obtain ⟨hi14, h⟩ := chk_el h
    refine gg_iald hx hb hK hP o_10 hi14 d_Model_length_14 ?_
    refine lv_goto hx hb d_Model_length_15 rfl ?_
    obtain rfl := Option.some.inj h
    exact gg_iret hx hb hr hlk hK hP hS d_Model_length_19
abbrev b_Model_known : ByteArray := prog_7_method_51_code
def y_Model_known : MethodName := ⟨"StampedStoreModel", "known", "(I)I"⟩
def w_Model_known : List Cond := .code y_Model_known b_Model_known 2 (some .int) :: w_all
theorem d_Model_known_0 : decode b_Model_known 0 = .ok (.iload_n 1, 1) := by decide +kernel
theorem d_Model_known_1 : decode b_Model_known 1 = .ok (.bipush 6, 2) := by decide +kernel
theorem d_Model_known_3 : decode b_Model_known 3 = .ok (.invokestatic 78, 3) := by decide +kernel
theorem d_Model_known_6 : decode b_Model_known 6 = .ok (.ifCond .eq 12, 3) := by decide +kernel
theorem d_Model_known_9 : decode b_Model_known 9 = .ok (.aload_n 0, 1) := by decide +kernel
theorem d_Model_known_10 : decode b_Model_known 10 = .ok (.getfield 35, 3) := by decide +kernel
theorem d_Model_known_13 : decode b_Model_known 13 = .ok (.iload_n 1, 1) := by decide +kernel
theorem d_Model_known_14 : decode b_Model_known 14 = .ok (.iaload, 1) := by decide +kernel
theorem d_Model_known_15 : decode b_Model_known 15 = .ok (.goto 4, 3) := by decide +kernel
theorem d_Model_known_18 : decode b_Model_known 18 = .ok (.iconst (-1), 1) := by decide +kernel
theorem d_Model_known_19 : decode b_Model_known 19 = .ok (.ireturn, 1) := by decide +kernel
def F_Model_known (R : Nat → Nat → Nat) (a0 : Nat) (x1 : Int32) (I : St) : Option Int32 := (ob (F_Model_below R x1 (6 : Int32) I) (fun v3 => (if v3 = 0 then some (-1 : Int32) else (chk x1 6 (some (I (R a0 10) x1.toNatClampNeg))))))
set_option maxHeartbeats 4000000 in
set_option maxRecDepth 100000 in
theorem c_Model_known (l : Launch) {g : Sg} {R : Nat → Nat → Nat} (hT : Ty g R) {a0 : Nat} (o0 : okA g 5 0 a0) {x1 : Int32} {I : St} {v : Int32} (h : F_Model_known R a0 x1 I = some v) : Cti l g R y_Model_known w_Model_known 1 21 [.ref a0, .int x1] I v I := by
  unfold Cti
  refine Met.ofW (cc := b_Model_known) (maxL := 2) (ret := (some .int)) (by decide) rfl ?_
  intro p e s m args below meth c s₁ B hml hv
  obtain ⟨rfl, hP, hK⟩ := hv
  have hts := atoms_spec (ws := w_Model_known) B.pre
  have hall : ∀ w ∈ w_all, w.before _ s = true := fun w hw => hts w (List.mem_cons_of_mem _ hw)
  have hown : s.vm.findClass R_Model = some m.cls := findClass_of_methodNamed B.named
  have hx := B.exec
  have hb := B.bytes
  have hr := B.returns
  have hlk := B.notSynchronized
  have cx : Cx p s m _ meth c g R R_Model b_Model_known 2 (some .int) := ⟨hx, hb, hml, hr, hlk, hown, hall, hT, hK⟩
  have hl := lv_entry ([.ref a0, .int x1]) (n := 2) (Nat.le_of_ble_eq_true rfl)
  rw [lg_entry_eq]
  generalize (lg_sl ([.ref a0, .int x1]) ++ List.replicate (2 - (lg_sl ([.ref a0, .int x1])).length) Slot.unset).toArray = ls at hl ⊢
  have hl : lv_has ls 2 [(0, .ref a0), (1, .int x1)] := hl
  have hS : va_S (· ∈ g.L) s.heap s.heap [] := va_S.rf
  unfold F_Model_known at h
  refine lv_iload_n hx hb d_Model_known_0 rfl (lv_at hl 1 rfl) ?_
  refine lv_bipush (v := 6) hx hb d_Model_known_1 (by decide) ?_
  obtain ⟨v3, e3, h⟩ := ob_el h
  refine gg_Si (As := [.int x1, .int (6 : Int32)]) (rest := []) ⟨hx, hb, hml, hown, hall⟩ (c_Model_below l hT e3) (cwS 2 hall (gS m_336 m_337 m_338 m_329) rfl rfl rfl (by decide +kernel) ⟨Nat.le_of_ble_eq_true rfl, Nat.le_of_ble_eq_true rfl⟩) hK hP hS rfl hl.1 rfl (Nat.le_of_ble_eq_true rfl) d_Model_known_3 (fun H locs hP hS => ?_)
  refine lv_if_eq hx hb d_Model_known_6 rfl (fun hc => ?_) (fun hc => ?_)
  · replace h := i_pos hc h
    refine lv_iconst (v := (-1)) hx hb d_Model_known_18 (by decide) ?_
    obtain rfl := Option.some.inj h
    exact gg_iret hx hb hr hlk hK hP hS d_Model_known_19
  · replace h := i_neg hc h
    refine lv_aload_n hx hb d_Model_known_9 rfl (lv_at hl 0 rfl) ?_
    refine gg_get (C := R_Model) (T := F_Model) (N := 23) (ci := 5) hx hb hall i_Model hown hK hP o0.1 (wE_5 o0.2) rfl 10 (by decide) (hall _ m_349) (fun _ h9 => h9) rfl d_Model_known_10 ?_
    have o_10 : okA g 6 6 (R a0 10) := ty_Model_10 hT o0
    refine lv_iload_n hx hb d_Model_known_13 rfl (lv_at hl 1 rfl) ?_
    obtain ⟨hi14, h⟩ := chk_el h
    refine gg_iald hx hb hK hP o_10 hi14 d_Model_known_14 ?_
    refine lv_goto hx hb d_Model_known_15 rfl ?_
    obtain rfl := Option.some.inj h
    exact gg_iret hx hb hr hlk hK hP hS d_Model_known_19
end
