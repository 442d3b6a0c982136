section
abbrev b_Model_elect : ByteArray := prog_7_method_23_code
def y_Model_elect : MethodName := ⟨"StampedStoreModel", "elect", "(I)I"⟩
def w_Model_elect : List Cond := .code y_Model_elect b_Model_elect 6 (some .int) :: w_all
theorem d_Model_elect_0 : decode b_Model_elect 0 = .ok (.iload_n 1, 1) := by decide +kernel
theorem d_Model_elect_1 : decode b_Model_elect 1 = .ok (.bipush 6, 2) := by decide +kernel
theorem d_Model_elect_3 : decode b_Model_elect 3 = .ok (.invokestatic 78, 3) := by decide +kernel
theorem d_Model_elect_6 : decode b_Model_elect 6 = .ok (.ifCond .eq 12, 3) := by decide +kernel
theorem d_Model_elect_9 : decode b_Model_elect 9 = .ok (.aload_n 0, 1) := by decide +kernel
theorem d_Model_elect_10 : decode b_Model_elect 10 = .ok (.getfield 7, 3) := by decide +kernel
theorem d_Model_elect_13 : decode b_Model_elect 13 = .ok (.iload_n 1, 1) := by decide +kernel
theorem d_Model_elect_14 : decode b_Model_elect 14 = .ok (.baload, 1) := by decide +kernel
theorem d_Model_elect_15 : decode b_Model_elect 15 = .ok (.ifCond .eq 5, 3) := by decide +kernel
theorem d_Model_elect_18 : decode b_Model_elect 18 = .ok (.iconst (-1), 1) := by decide +kernel
theorem d_Model_elect_19 : decode b_Model_elect 19 = .ok (.ireturn, 1) := by decide +kernel
theorem d_Model_elect_20 : decode b_Model_elect 20 = .ok (.aload_n 0, 1) := by decide +kernel
theorem d_Model_elect_21 : decode b_Model_elect 21 = .ok (.getfield 17, 3) := by decide +kernel
theorem d_Model_elect_24 : decode b_Model_elect 24 = .ok (.iload_n 1, 1) := by decide +kernel
theorem d_Model_elect_25 : decode b_Model_elect 25 = .ok (.iaload, 1) := by decide +kernel
theorem d_Model_elect_26 : decode b_Model_elect 26 = .ok (.iconst 1, 1) := by decide +kernel
theorem d_Model_elect_27 : decode b_Model_elect 27 = .ok (.iadd, 1) := by decide +kernel
theorem d_Model_elect_28 : decode b_Model_elect 28 = .ok (.istore_n 2, 1) := by decide +kernel
theorem d_Model_elect_29 : decode b_Model_elect 29 = .ok (.iload_n 2, 1) := by decide +kernel
theorem d_Model_elect_30 : decode b_Model_elect 30 = .ok (.iconst 3, 1) := by decide +kernel
theorem d_Model_elect_31 : decode b_Model_elect 31 = .ok (.irem, 1) := by decide +kernel
theorem d_Model_elect_32 : decode b_Model_elect 32 = .ok (.iload_n 1, 1) := by decide +kernel
theorem d_Model_elect_33 : decode b_Model_elect 33 = .ok (.iconst 3, 1) := by decide +kernel
theorem d_Model_elect_34 : decode b_Model_elect 34 = .ok (.irem, 1) := by decide +kernel
theorem d_Model_elect_35 : decode b_Model_elect 35 = .ok (.if_icmp .eq 9, 3) := by decide +kernel
theorem d_Model_elect_38 : decode b_Model_elect 38 = .ok (.iinc 2 1, 3) := by decide +kernel
theorem d_Model_elect_41 : decode b_Model_elect 41 = .ok (.goto (-12), 3) := by decide +kernel
theorem d_Model_elect_44 : decode b_Model_elect 44 = .ok (.iconst 0, 1) := by decide +kernel
theorem d_Model_elect_45 : decode b_Model_elect 45 = .ok (.istore_n 3, 1) := by decide +kernel
theorem d_Model_elect_46 : decode b_Model_elect 46 = .ok (.iconst 0, 1) := by decide +kernel
theorem d_Model_elect_47 : decode b_Model_elect 47 = .ok (.istore 4, 2) := by decide +kernel
theorem d_Model_elect_49 : decode b_Model_elect 49 = .ok (.iload_n 1, 1) := by decide +kernel
theorem d_Model_elect_50 : decode b_Model_elect 50 = .ok (.iconst 3, 1) := by decide +kernel
theorem d_Model_elect_51 : decode b_Model_elect 51 = .ok (.idiv, 1) := by decide +kernel
theorem d_Model_elect_52 : decode b_Model_elect 52 = .ok (.iconst 3, 1) := by decide +kernel
theorem d_Model_elect_53 : decode b_Model_elect 53 = .ok (.imul, 1) := by decide +kernel
theorem d_Model_elect_54 : decode b_Model_elect 54 = .ok (.istore 5, 2) := by decide +kernel
theorem d_Model_elect_56 : decode b_Model_elect 56 = .ok (.iload 5, 2) := by decide +kernel
theorem d_Model_elect_58 : decode b_Model_elect 58 = .ok (.iload_n 1, 1) := by decide +kernel
theorem d_Model_elect_59 : decode b_Model_elect 59 = .ok (.iconst 3, 1) := by decide +kernel
theorem d_Model_elect_60 : decode b_Model_elect 60 = .ok (.idiv, 1) := by decide +kernel
theorem d_Model_elect_61 : decode b_Model_elect 61 = .ok (.iconst 3, 1) := by decide +kernel
theorem d_Model_elect_62 : decode b_Model_elect 62 = .ok (.imul, 1) := by decide +kernel
theorem d_Model_elect_63 : decode b_Model_elect 63 = .ok (.iconst 3, 1) := by decide +kernel
theorem d_Model_elect_64 : decode b_Model_elect 64 = .ok (.iadd, 1) := by decide +kernel
theorem d_Model_elect_65 : decode b_Model_elect 65 = .ok (.if_icmp .ge 73, 3) := by decide +kernel
theorem d_Model_elect_68 : decode b_Model_elect 68 = .ok (.aload_n 0, 1) := by decide +kernel
theorem d_Model_elect_69 : decode b_Model_elect 69 = .ok (.iload 5, 2) := by decide +kernel
theorem d_Model_elect_71 : decode b_Model_elect 71 = .ok (.iload_n 1, 1) := by decide +kernel
theorem d_Model_elect_72 : decode b_Model_elect 72 = .ok (.iload_n 2, 1) := by decide +kernel
theorem d_Model_elect_73 : decode b_Model_elect 73 = .ok (.invokevirtual 106, 3) := by decide +kernel
theorem d_Model_elect_76 : decode b_Model_elect 76 = .ok (.ifCond .eq 56, 3) := by decide +kernel
theorem d_Model_elect_79 : decode b_Model_elect 79 = .ok (.aload_n 0, 1) := by decide +kernel
theorem d_Model_elect_80 : decode b_Model_elect 80 = .ok (.iload 5, 2) := by decide +kernel
theorem d_Model_elect_82 : decode b_Model_elect 82 = .ok (.iload_n 2, 1) := by decide +kernel
theorem d_Model_elect_83 : decode b_Model_elect 83 = .ok (.invokevirtual 110, 3) := by decide +kernel
theorem d_Model_elect_86 : decode b_Model_elect 86 = .ok (.aload_n 0, 1) := by decide +kernel
theorem d_Model_elect_87 : decode b_Model_elect 87 = .ok (.iload 5, 2) := by decide +kernel
theorem d_Model_elect_89 : decode b_Model_elect 89 = .ok (.invokevirtual 114, 3) := by decide +kernel
theorem d_Model_elect_92 : decode b_Model_elect 92 = .ok (.aload_n 0, 1) := by decide +kernel
theorem d_Model_elect_93 : decode b_Model_elect 93 = .ok (.getfield 23, 3) := by decide +kernel
theorem d_Model_elect_96 : decode b_Model_elect 96 = .ok (.iload 5, 2) := by decide +kernel
theorem d_Model_elect_98 : decode b_Model_elect 98 = .ok (.iload_n 1, 1) := by decide +kernel
theorem d_Model_elect_99 : decode b_Model_elect 99 = .ok (.iastore, 1) := by decide +kernel
theorem d_Model_elect_100 : decode b_Model_elect 100 = .ok (.iload_n 3, 1) := by decide +kernel
theorem d_Model_elect_101 : decode b_Model_elect 101 = .ok (.ifCond .ne 9, 3) := by decide +kernel
theorem d_Model_elect_104 : decode b_Model_elect 104 = .ok (.iload 5, 2) := by decide +kernel
theorem d_Model_elect_106 : decode b_Model_elect 106 = .ok (.iload_n 1, 1) := by decide +kernel
theorem d_Model_elect_107 : decode b_Model_elect 107 = .ok (.if_icmp .ne 7, 3) := by decide +kernel
theorem d_Model_elect_110 : decode b_Model_elect 110 = .ok (.iconst 1, 1) := by decide +kernel
theorem d_Model_elect_111 : decode b_Model_elect 111 = .ok (.goto 4, 3) := by decide +kernel
theorem d_Model_elect_114 : decode b_Model_elect 114 = .ok (.iconst 0, 1) := by decide +kernel
theorem d_Model_elect_115 : decode b_Model_elect 115 = .ok (.istore_n 3, 1) := by decide +kernel
theorem d_Model_elect_116 : decode b_Model_elect 116 = .ok (.iload 4, 2) := by decide +kernel
theorem d_Model_elect_118 : decode b_Model_elect 118 = .ok (.iload 5, 2) := by decide +kernel
theorem d_Model_elect_120 : decode b_Model_elect 120 = .ok (.iload_n 1, 1) := by decide +kernel
theorem d_Model_elect_121 : decode b_Model_elect 121 = .ok (.if_icmp .ne 7, 3) := by decide +kernel
theorem d_Model_elect_124 : decode b_Model_elect 124 = .ok (.iconst 0, 1) := by decide +kernel
theorem d_Model_elect_125 : decode b_Model_elect 125 = .ok (.goto 4, 3) := by decide +kernel
theorem d_Model_elect_128 : decode b_Model_elect 128 = .ok (.iconst 1, 1) := by decide +kernel
theorem d_Model_elect_129 : decode b_Model_elect 129 = .ok (.iadd, 1) := by decide +kernel
theorem d_Model_elect_130 : decode b_Model_elect 130 = .ok (.istore 4, 2) := by decide +kernel
theorem d_Model_elect_132 : decode b_Model_elect 132 = .ok (.iinc 5 1, 3) := by decide +kernel
theorem d_Model_elect_135 : decode b_Model_elect 135 = .ok (.goto (-79), 3) := by decide +kernel
theorem d_Model_elect_138 : decode b_Model_elect 138 = .ok (.iload_n 3, 1) := by decide +kernel
theorem d_Model_elect_139 : decode b_Model_elect 139 = .ok (.ifCond .eq 8, 3) := by decide +kernel
theorem d_Model_elect_142 : decode b_Model_elect 142 = .ok (.iload 4, 2) := by decide +kernel
theorem d_Model_elect_144 : decode b_Model_elect 144 = .ok (.ifCond .ne 5, 3) := by decide +kernel
theorem d_Model_elect_147 : decode b_Model_elect 147 = .ok (.iconst 0, 1) := by decide +kernel
theorem d_Model_elect_148 : decode b_Model_elect 148 = .ok (.ireturn, 1) := by decide +kernel
theorem d_Model_elect_149 : decode b_Model_elect 149 = .ok (.aload_n 0, 1) := by decide +kernel
theorem d_Model_elect_150 : decode b_Model_elect 150 = .ok (.getfield 26, 3) := by decide +kernel
theorem d_Model_elect_153 : decode b_Model_elect 153 = .ok (.iload_n 1, 1) := by decide +kernel
theorem d_Model_elect_154 : decode b_Model_elect 154 = .ok (.iconst 1, 1) := by decide +kernel
theorem d_Model_elect_155 : decode b_Model_elect 155 = .ok (.bastore, 1) := by decide +kernel
theorem d_Model_elect_156 : decode b_Model_elect 156 = .ok (.aload_n 0, 1) := by decide +kernel
theorem d_Model_elect_157 : decode b_Model_elect 157 = .ok (.getfield 29, 3) := by decide +kernel
theorem d_Model_elect_160 : decode b_Model_elect 160 = .ok (.iload_n 1, 1) := by decide +kernel
theorem d_Model_elect_161 : decode b_Model_elect 161 = .ok (.aload_n 0, 1) := by decide +kernel
theorem d_Model_elect_162 : decode b_Model_elect 162 = .ok (.iload_n 1, 1) := by decide +kernel
theorem d_Model_elect_163 : decode b_Model_elect 163 = .ok (.invokevirtual 100, 3) := by decide +kernel
theorem d_Model_elect_166 : decode b_Model_elect 166 = .ok (.bipush 40, 2) := by decide +kernel
theorem d_Model_elect_168 : decode b_Model_elect 168 = .ok (.iadd, 1) := by decide +kernel
theorem d_Model_elect_169 : decode b_Model_elect 169 = .ok (.iastore, 1) := by decide +kernel
theorem d_Model_elect_170 : decode b_Model_elect 170 = .ok (.aload_n 0, 1) := by decide +kernel
theorem d_Model_elect_171 : decode b_Model_elect 171 = .ok (.iload_n 1, 1) := by decide +kernel
theorem d_Model_elect_172 : decode b_Model_elect 172 = .ok (.invokevirtual 118, 3) := by decide +kernel
theorem d_Model_elect_175 : decode b_Model_elect 175 = .ok (.istore 5, 2) := by decide +kernel
theorem d_Model_elect_177 : decode b_Model_elect 177 = .ok (.aload_n 0, 1) := by decide +kernel
theorem d_Model_elect_178 : decode b_Model_elect 178 = .ok (.iload_n 1, 1) := by decide +kernel
theorem d_Model_elect_179 : decode b_Model_elect 179 = .ok (.iload 5, 2) := by decide +kernel
theorem d_Model_elect_181 : decode b_Model_elect 181 = .ok (.invokevirtual 121, 3) := by decide +kernel
theorem d_Model_elect_184 : decode b_Model_elect 184 = .ok (.ifCond .ne 13, 3) := by decide +kernel
theorem d_Model_elect_187 : decode b_Model_elect 187 = .ok (.aload_n 0, 1) := by decide +kernel
theorem d_Model_elect_188 : decode b_Model_elect 188 = .ok (.iload_n 1, 1) := by decide +kernel
theorem d_Model_elect_189 : decode b_Model_elect 189 = .ok (.iconst 0, 1) := by decide +kernel
theorem d_Model_elect_190 : decode b_Model_elect 190 = .ok (.iconst (-1), 1) := by decide +kernel
theorem d_Model_elect_191 : decode b_Model_elect 191 = .ok (.iconst (-1), 1) := by decide +kernel
theorem d_Model_elect_192 : decode b_Model_elect 192 = .ok (.iload 5, 2) := by decide +kernel
theorem d_Model_elect_194 : decode b_Model_elect 194 = .ok (.invokevirtual 125, 3) := by decide +kernel
theorem d_Model_elect_197 : decode b_Model_elect 197 = .ok (.iload_n 2, 1) := by decide +kernel
theorem d_Model_elect_198 : decode b_Model_elect 198 = .ok (.ireturn, 1) := by decide +kernel
def B_Model_elect_18 (R : Nat → Nat → Nat) (I : St) : Option (Int32 × St) := some ((-1 : Int32), I)
set_option maxHeartbeats 4000000 in
set_option maxRecDepth 100000 in
theorem b_Model_elect_18 {p : Program} {l : Launch} {e : Env} {s : State} {m : MethodId} {args : Array Value} {below : List Frame} {meth : Method} {c : Code} {g : Sg} {R : Nat → Nat → Nat} {J : St} {v : Int32} (cx : Cx p s m args meth c g R R_Model b_Model_elect 6 (some .int)) : ∀ (I : St) (H : Heap) (locs : List Loc) (ls : Array Slot), B_Model_elect_18 R I = some (v, J) → wW g R I H → va_S (· ∈ g.L) s.heap H locs → lv_has ls 6 [] → W p l e { frames := 2, cells := 0, slots := 0, locals := 46 } s m args below meth c H locs 0 0 (MQ below (Qi g R v J) args s 0 0 (· ∈ g.L)) (F0 m 18 ls []) := by
  have ⟨hx, hb, hml, hr, hlk, hown, hall, hT, hK⟩ := cx
  intro I H locs ls h hP hS hl
  unfold B_Model_elect_18 at h
  refine lv_iconst (v := (-1)) hx hb d_Model_elect_18 (by decide) ?_
  obtain ⟨rfl, rfl⟩ := rt_el h
  exact gg_iret hx hb hr hlk hK hP hS d_Model_elect_19
def B_Model_elect_132 (R : Nat → Nat → Nat) (k56 : Nat → Int32 → Int32 → Int32 → Int32 → Int32 → St → Option (Int32 × St)) (a0 : Nat) (x1 : Int32) (x2 : Int32) (x3 : Int32) (x4 : Int32) (x5 : Int32) (I : St) : Option (Int32 × St) := k56 a0 x1 x2 x3 x4 (x5 + 1) I
set_option maxHeartbeats 4000000 in
set_option maxRecDepth 100000 in
theorem b_Model_elect_132 {p : Program} {l : Launch} {e : Env} {s : State} {m : MethodId} {args : Array Value} {below : List Frame} {meth : Method} {c : Code} {g : Sg} {R : Nat → Nat → Nat} {J : St} {v : Int32} (cx : Cx p s m args meth c g R R_Model b_Model_elect 6 (some .int)) {k56 : Nat → Int32 → Int32 → Int32 → Int32 → Int32 → St → Option (Int32 × St)} (hk56 : ∀ (a0 : Nat) (x1 : Int32) (x2 : Int32) (x3 : Int32) (x4 : Int32) (x5 : Int32) (I : St) (H : Heap) (locs : List Loc) (ls : Array Slot), okA g 5 0 a0 → k56 a0 x1 x2 x3 x4 x5 I = some (v, J) → wW g R I H → va_S (· ∈ g.L) s.heap H locs → lv_has ls 6 [(0, .ref a0), (1, .int x1), (2, .int x2), (3, .int x3), (4, .int x4), (5, .int x5)] → W p l e { frames := 2, cells := 0, slots := 0, locals := 46 } s m args below meth c H locs 0 0 (MQ below (Qi g R v J) args s 0 0 (· ∈ g.L)) (F0 m 56 ls [])) : ∀ (a0 : Nat) (x1 : Int32) (x2 : Int32) (x3 : Int32) (x4 : Int32) (x5 : Int32) (I : St) (H : Heap) (locs : List Loc) (ls : Array Slot), okA g 5 0 a0 → B_Model_elect_132 R k56 a0 x1 x2 x3 x4 x5 I = some (v, J) → wW g R I H → va_S (· ∈ g.L) s.heap H locs → lv_has ls 6 [(0, .ref a0), (1, .int x1), (2, .int x2), (3, .int x3), (4, .int x4), (5, .int x5)] → W p l e { frames := 2, cells := 0, slots := 0, locals := 46 } s m args below meth c H locs 0 0 (MQ below (Qi g R v J) args s 0 0 (· ∈ g.L)) (F0 m 132 ls []) := by
  have ⟨hx, hb, hml, hr, hlk, hown, hall, hT, hK⟩ := cx
  intro a0 x1 x2 x3 x4 x5 I H locs ls o0 h hP hS hl
  unfold B_Model_elect_132 at h
  refine lv_iinc (k := 5) (v := (x5 + 1)) (lv' := [(5, .int (x5 + 1)), (0, .ref a0), (1, .int x1), (2, .int x2), (3, .int x3), (4, .int x4)]) hx hb d_Model_elect_132 hl rfl (by rw [show Int32.ofInt 1 = (1 : Int32) from by decide]) (Nat.le_of_ble_eq_true rfl) rfl (fun ls hl => ?_)
  refine lv_goto hx hb d_Model_elect_135 rfl ?_
  exact hk56 _ _ _ _ _ _ _ _ _ _ o0 h hP hS (lv_sub hl [1, 2, 3, 4, 5, 0] rfl)
def B_Model_elect_129 (R : Nat → Nat → Nat) (k56 : Nat → Int32 → Int32 → Int32 → Int32 → Int32 → St → Option (Int32 × St)) (a0 : Nat) (x1 : Int32) (x2 : Int32) (x3 : Int32) (x5 : Int32) (t0 : Int32) (t1 : Int32) (I : St) : Option (Int32 × St) := B_Model_elect_132 R k56 a0 x1 x2 x3 (t0 + t1) x5 I
set_option maxHeartbeats 4000000 in
set_option maxRecDepth 100000 in
theorem b_Model_elect_129 {p : Program} {l : Launch} {e : Env} {s : State} {m : MethodId} {args : Array Value} {below : List Frame} {meth : Method} {c : Code} {g : Sg} {R : Nat → Nat → Nat} {J : St} {v : Int32} (cx : Cx p s m args meth c g R R_Model b_Model_elect 6 (some .int)) {k56 : Nat → Int32 → Int32 → Int32 → Int32 → Int32 → St → Option (Int32 × St)} (hk56 : ∀ (a0 : Nat) (x1 : Int32) (x2 : Int32) (x3 : Int32) (x4 : Int32) (x5 : Int32) (I : St) (H : Heap) (locs : List Loc) (ls : Array Slot), okA g 5 0 a0 → k56 a0 x1 x2 x3 x4 x5 I = some (v, J) → wW g R I H → va_S (· ∈ g.L) s.heap H locs → lv_has ls 6 [(0, .ref a0), (1, .int x1), (2, .int x2), (3, .int x3), (4, .int x4), (5, .int x5)] → W p l e { frames := 2, cells := 0, slots := 0, locals := 46 } s m args below meth c H locs 0 0 (MQ below (Qi g R v J) args s 0 0 (· ∈ g.L)) (F0 m 56 ls [])) : ∀ (a0 : Nat) (x1 : Int32) (x2 : Int32) (x3 : Int32) (x5 : Int32) (t0 : Int32) (t1 : Int32) (I : St) (H : Heap) (locs : List Loc) (ls : Array Slot), okA g 5 0 a0 → B_Model_elect_129 R k56 a0 x1 x2 x3 x5 t0 t1 I = some (v, J) → wW g R I H → va_S (· ∈ g.L) s.heap H locs → lv_has ls 6 [(0, .ref a0), (1, .int x1), (2, .int x2), (3, .int x3), (5, .int x5)] → W p l e { frames := 2, cells := 0, slots := 0, locals := 46 } s m args below meth c H locs 0 0 (MQ below (Qi g R v J) args s 0 0 (· ∈ g.L)) (F0 m 129 ls [.int t1, .int t0]) := by
  have ⟨hx, hb, hml, hr, hlk, hown, hall, hT, hK⟩ := cx
  intro a0 x1 x2 x3 x5 t0 t1 I H locs ls o0 h hP hS hl
  unfold B_Model_elect_129 at h
  refine lv_iadd hx hb d_Model_elect_129 ?_
  refine lv_istore (lv' := [(4, .int (t0 + t1)), (0, .ref a0), (1, .int x1), (2, .int x2), (3, .int x3), (5, .int x5)]) hx hb d_Model_elect_130 hl (Nat.le_of_ble_eq_true rfl) rfl (fun ls hl => ?_)
  exact b_Model_elect_132 cx hk56 _ _ _ _ _ _ _ _ _ _ o0 h hP hS (lv_sub hl [1, 2, 3, 4, 0, 5] rfl)
def B_Model_elect_115 (R : Nat → Nat → Nat) (k56 : Nat → Int32 → Int32 → Int32 → Int32 → Int32 → St → Option (Int32 × St)) (a0 : Nat) (x1 : Int32) (x2 : Int32) (x4 : Int32) (x5 : Int32) (t0 : Int32) (I : St) : Option (Int32 × St) := (if x5 = x1 then B_Model_elect_129 R k56 a0 x1 x2 t0 x5 x4 (0 : Int32) I else B_Model_elect_129 R k56 a0 x1 x2 t0 x5 x4 (1 : Int32) I)
set_option maxHeartbeats 4000000 in
set_option maxRecDepth 100000 in
theorem b_Model_elect_115 {p : Program} {l : Launch} {e : Env} {s : State} {m : MethodId} {args : Array Value} {below : List Frame} {meth : Method} {c : Code} {g : Sg} {R : Nat → Nat → Nat} {J : St} {v : Int32} (cx : Cx p s m args meth c g R R_Model b_Model_elect 6 (some .int)) {k56 : Nat → Int32 → Int32 → Int32 → Int32 → Int32 → St → Option (Int32 × St)} (hk56 : ∀ (a0 : Nat) (x1 : Int32) (x2 : Int32) (x3 : Int32) (x4 : Int32) (x5 : Int32) (I : St) (H : Heap) (locs : List Loc) (ls : Array Slot), okA g 5 0 a0 → k56 a0 x1 x2 x3 x4 x5 I = some (v, J) → wW g R I H → va_S (· ∈ g.L) s.heap H locs → lv_has ls 6 [(0, .ref a0), (1, .int x1), (2, .int x2), (3, .int x3), (4, .int x4), (5, .int x5)] → W p l e { frames := 2, cells := 0, slots := 0, locals := 46 } s m args below meth c H locs 0 0 (MQ below (Qi g R v J) args s 0 0 (· ∈ g.L)) (F0 m 56 ls [])) : ∀ (a0 : Nat) (x1 : Int32) (x2 : Int32) (x4 : Int32) (x5 : Int32) (t0 : Int32) (I : St) (H : Heap) (locs : List Loc) (ls : Array Slot), okA g 5 0 a0 → B_Model_elect_115 R k56 a0 x1 x2 x4 x5 t0 I = some (v, J) → wW g R I H → va_S (· ∈ g.L) s.heap H locs → lv_has ls 6 [(0, .ref a0), (1, .int x1), (2, .int x2), (4, .int x4), (5, .int x5)] → W p l e { frames := 2, cells := 0, slots := 0, locals := 46 } s m args below meth c H locs 0 0 (MQ below (Qi g R v J) args s 0 0 (· ∈ g.L)) (F0 m 115 ls [.int t0]) := by
  have ⟨hx, hb, hml, hr, hlk, hown, hall, hT, hK⟩ := cx
  intro a0 x1 x2 x4 x5 t0 I H locs ls o0 h hP hS hl
  unfold B_Model_elect_115 at h
  refine lv_istore_n (lv' := [(3, .int t0), (0, .ref a0), (1, .int x1), (2, .int x2), (4, .int x4), (5, .int x5)]) hx hb d_Model_elect_115 rfl hl (Nat.le_of_ble_eq_true rfl) rfl (fun ls hl => ?_)
  refine lv_iload hx hb d_Model_elect_116 (lv_at hl 4 rfl) ?_
  refine lv_iload hx hb d_Model_elect_118 (lv_at hl 5 rfl) ?_
  refine lv_iload_n hx hb d_Model_elect_120 rfl (lv_at hl 2 rfl) ?_
  refine lv_icmp_ne hx hb d_Model_elect_121 rfl (fun hc => ?_) (fun hc => ?_)
  · replace h := i_neg hc h
    refine lv_iconst (v := 1) hx hb d_Model_elect_128 (by decide) ?_
    exact b_Model_elect_129 cx hk56 _ _ _ _ _ _ _ _ _ _ _ o0 h hP hS (lv_sub hl [1, 2, 3, 0, 5] rfl)
  · replace h := i_pos hc h
    refine lv_iconst (v := 0) hx hb d_Model_elect_124 (by decide) ?_
    refine lv_goto hx hb d_Model_elect_125 rfl ?_
    exact b_Model_elect_129 cx hk56 _ _ _ _ _ _ _ _ _ _ _ o0 h hP hS (lv_sub hl [1, 2, 3, 0, 5] rfl)
def B_Model_elect_110 (R : Nat → Nat → Nat) (k56 : Nat → Int32 → Int32 → Int32 → Int32 → Int32 → St → Option (Int32 × St)) (a0 : Nat) (x1 : Int32) (x2 : Int32) (x4 : Int32) (x5 : Int32) (I : St) : Option (Int32 × St) := B_Model_elect_115 R k56 a0 x1 x2 x4 x5 (1 : Int32) I
set_option maxHeartbeats 4000000 in
set_option maxRecDepth 100000 in
theorem b_Model_elect_110 {p : Program} {l : Launch} {e : Env} {s : State} {m : MethodId} {args : Array Value} {below : List Frame} {meth : Method} {c : Code} {g : Sg} {R : Nat → Nat → Nat} {J : St} {v : Int32} (cx : Cx p s m args meth c g R R_Model b_Model_elect 6 (some .int)) {k56 : Nat → Int32 → Int32 → Int32 → Int32 → Int32 → St → Option (Int32 × St)} (hk56 : ∀ (a0 : Nat) (x1 : Int32) (x2 : Int32) (x3 : Int32) (x4 : Int32) (x5 : Int32) (I : St) (H : Heap) (locs : List Loc) (ls : Array Slot), okA g 5 0 a0 → k56 a0 x1 x2 x3 x4 x5 I = some (v, J) → wW g R I H → va_S (· ∈ g.L) s.heap H locs → lv_has ls 6 [(0, .ref a0), (1, .int x1), (2, .int x2), (3, .int x3), (4, .int x4), (5, .int x5)] → W p l e { frames := 2, cells := 0, slots := 0, locals := 46 } s m args below meth c H locs 0 0 (MQ below (Qi g R v J) args s 0 0 (· ∈ g.L)) (F0 m 56 ls [])) : ∀ (a0 : Nat) (x1 : Int32) (x2 : Int32) (x4 : Int32) (x5 : Int32) (I : St) (H : Heap) (locs : List Loc) (ls : Array Slot), okA g 5 0 a0 → B_Model_elect_110 R k56 a0 x1 x2 x4 x5 I = some (v, J) → wW g R I H → va_S (· ∈ g.L) s.heap H locs → lv_has ls 6 [(0, .ref a0), (1, .int x1), (2, .int x2), (4, .int x4), (5, .int x5)] → W p l e { frames := 2, cells := 0, slots := 0, locals := 46 } s m args below meth c H locs 0 0 (MQ below (Qi g R v J) args s 0 0 (· ∈ g.L)) (F0 m 110 ls []) := by
  have ⟨hx, hb, hml, hr, hlk, hown, hall, hT, hK⟩ := cx
  intro a0 x1 x2 x4 x5 I H locs ls o0 h hP hS hl
  unfold B_Model_elect_110 at h
  refine lv_iconst (v := 1) hx hb d_Model_elect_110 (by decide) ?_
  refine lv_goto hx hb d_Model_elect_111 rfl ?_
  exact b_Model_elect_115 cx hk56 _ _ _ _ _ _ _ _ _ _ o0 h hP hS (lv_sub hl [0, 1, 2, 3, 4] rfl)
def B_Model_elect_147 (R : Nat → Nat → Nat) (I : St) : Option (Int32 × St) := some ((0 : Int32), I)
set_option maxHeartbeats 4000000 in
set_option maxRecDepth 100000 in
theorem b_Model_elect_147 {p : Program} {l : Launch} {e : Env} {s : State} {m : MethodId} {args : Array Value} {below : List Frame} {meth : Method} {c : Code} {g : Sg} {R : Nat → Nat → Nat} {J : St} {v : Int32} (cx : Cx p s m args meth c g R R_Model b_Model_elect 6 (some .int)) : ∀ (I : St) (H : Heap) (locs : List Loc) (ls : Array Slot), B_Model_elect_147 R I = some (v, J) → wW g R I H → va_S (· ∈ g.L) s.heap H locs → lv_has ls 6 [] → W p l e { frames := 2, cells := 0, slots := 0, locals := 46 } s m args below meth c H locs 0 0 (MQ below (Qi g R v J) args s 0 0 (· ∈ g.L)) (F0 m 147 ls []) := by
  have ⟨hx, hb, hml, hr, hlk, hown, hall, hT, hK⟩ := cx
  intro I H locs ls h hP hS hl
  unfold B_Model_elect_147 at h
  refine lv_iconst (v := 0) hx hb d_Model_elect_147 (by decide) ?_
  obtain ⟨rfl, rfl⟩ := rt_el h
  exact gg_iret hx hb hr hlk hK hP hS d_Model_elect_148
def B_Model_elect_197 (R : Nat → Nat → Nat) (x2 : Int32) (I : St) : Option (Int32 × St) := some (x2, I)
set_option maxHeartbeats 4000000 in
set_option maxRecDepth 100000 in
theorem b_Model_elect_197 {p : Program} {l : Launch} {e : Env} {s : State} {m : MethodId} {args : Array Value} {below : List Frame} {meth : Method} {c : Code} {g : Sg} {R : Nat → Nat → Nat} {J : St} {v : Int32} (cx : Cx p s m args meth c g R R_Model b_Model_elect 6 (some .int)) : ∀ (x2 : Int32) (I : St) (H : Heap) (locs : List Loc) (ls : Array Slot), B_Model_elect_197 R x2 I = some (v, J) → wW g R I H → va_S (· ∈ g.L) s.heap H locs → lv_has ls 6 [(2, .int x2)] → W p l e { frames := 2, cells := 0, slots := 0, locals := 46 } s m args below meth c H locs 0 0 (MQ below (Qi g R v J) args s 0 0 (· ∈ g.L)) (F0 m 197 ls []) := by
  have ⟨hx, hb, hml, hr, hlk, hown, hall, hT, hK⟩ := cx
  intro x2 I H locs ls h hP hS hl
  unfold B_Model_elect_197 at h
  refine lv_iload_n hx hb d_Model_elect_197 rfl (lv_at hl 0 rfl) ?_
  obtain ⟨rfl, rfl⟩ := rt_el h
  exact gg_iret hx hb hr hlk hK hP hS d_Model_elect_198
def B_Model_elect_56 (R : Nat → Nat → Nat) : Nat → Nat → Int32 → Int32 → Int32 → Int32 → Int32 → St → Option (Int32 × St)
  | 0, _, _, _, _, _, _, _ => none
  | f + 1, a0, x1, x2, x3, x4, x5, I => (if (((x1 / (3 : Int32)) * (3 : Int32)) + (3 : Int32)) ≤ x5 then (if x3 = 0 then B_Model_elect_147 R I else (if x4 = 0 then B_Model_elect_147 R I else (chk x1 6 (ap (up2 I (R a0 7) x1.toNatClampNeg (vp_nar .boolean (1 : Int32))) (fun I155 => (ob (F_Model_earliest R a0 x1 I155) (fun v163 => (chk x1 6 (ap (up2 I155 (R a0 8) x1.toNatClampNeg (v163 + (40 : Int32))) (fun I169 => (ob (F_Model_next R a0 x1 I169) (fun v172 => (ob (F_Model_bars R a0 x1 v172 I169) (fun v181 => (if v181 = 0 then (ob (F_Model_put R a0 x1 (0 : Int32) (-1 : Int32) (-1 : Int32) v172 I169) (fun I194 => B_Model_elect_197 R x2 I194)) else B_Model_elect_197 R x2 I169))))))))))))))) else (ob (F_Model_grants R a0 x5 x1 x2 I) (fun v73 => (if v73 = 0 then B_Model_elect_132 R (B_Model_elect_56 R f) a0 x1 x2 x3 x4 x5 I else (ob (F_Model_raise R a0 x5 x2 I) (fun I83 => (ob (F_Model_promise R a0 x5 I83) (fun I89 => (chk x5 6 (ap (up2 I89 (R a0 6) x5.toNatClampNeg x1) (fun I99 => (if x3 = 0 then (if x5 = x1 then B_Model_elect_110 R (B_Model_elect_56 R f) a0 x1 x2 x4 x5 I99 else B_Model_elect_115 R (B_Model_elect_56 R f) a0 x1 x2 x4 x5 (0 : Int32) I99) else B_Model_elect_110 R (B_Model_elect_56 R f) a0 x1 x2 x4 x5 I99))))))))))))
set_option maxHeartbeats 4000000 in
set_option maxRecDepth 100000 in
theorem b_Model_elect_56 {p : Program} {l : Launch} {e : Env} {s : State} {m : MethodId} {args : Array Value} {below : List Frame} {meth : Method} {c : Code} {g : Sg} {R : Nat → Nat → Nat} {J : St} {v : Int32} (cx : Cx p s m args meth c g R R_Model b_Model_elect 6 (some .int)) (f : Nat) : ∀ (a0 : Nat) (x1 : Int32) (x2 : Int32) (x3 : Int32) (x4 : Int32) (x5 : Int32) (I : St) (H : Heap) (locs : List Loc) (ls : Array Slot), okA g 5 0 a0 → B_Model_elect_56 R f a0 x1 x2 x3 x4 x5 I = some (v, J) → wW g R I H → va_S (· ∈ g.L) s.heap H locs → lv_has ls 6 [(0, .ref a0), (1, .int x1), (2, .int x2), (3, .int x3), (4, .int x4), (5, .int x5)] → W p l e { frames := 2, cells := 0, slots := 0, locals := 46 } s m args below meth c H locs 0 0 (MQ below (Qi g R v J) args s 0 0 (· ∈ g.L)) (F0 m 56 ls []) := by
  have ⟨hx, hb, hml, hr, hlk, hown, hall, hT, hK⟩ := cx
  induction f with
  | zero => intro a0 x1 x2 x3 x4 x5 I H locs ls o0 h; unfold B_Model_elect_56 at h; cases h
  | succ f ih =>
    intro a0 x1 x2 x3 x4 x5 I H locs ls o0 h hP hS hl
    unfold B_Model_elect_56 at h
    refine lv_iload hx hb d_Model_elect_56 (lv_at hl 5 rfl) ?_
    refine lv_iload_n hx hb d_Model_elect_58 rfl (lv_at hl 1 rfl) ?_
    refine lv_iconst (v := 3) hx hb d_Model_elect_59 (by decide) ?_
    refine lv_idiv hx hb d_Model_elect_60 (by decide) ?_
    refine lv_iconst (v := 3) hx hb d_Model_elect_61 (by decide) ?_
    refine lv_imul hx hb d_Model_elect_62 ?_
    refine lv_iconst (v := 3) hx hb d_Model_elect_63 (by decide) ?_
    refine lv_iadd hx hb d_Model_elect_64 ?_
    refine lv_icmp_ge hx hb d_Model_elect_65 rfl (fun hc => ?_) (fun hc => ?_)
    · replace h := i_pos hc h
      refine lv_iload_n hx hb d_Model_elect_138 rfl (lv_at hl 3 rfl) ?_
      refine lv_if_eq hx hb d_Model_elect_139 rfl (fun hc => ?_) (fun hc => ?_)
      · replace h := i_pos hc h
        exact b_Model_elect_147 cx _ _ _ _ h hP hS (lv_sub hl [] rfl)
      · replace h := i_neg hc h
        refine lv_iload hx hb d_Model_elect_142 (lv_at hl 4 rfl) ?_
        refine lv_if_ne hx hb d_Model_elect_144 rfl (fun hc => ?_) (fun hc => ?_)
        · replace h := i_neg hc h
          refine lv_aload_n hx hb d_Model_elect_149 rfl (lv_at hl 0 rfl) ?_
          refine gg_get (C := R_Model) (T := F_Model) (N := 23) (ci := 5) hx hb hall i_Model hown hK hP o0.1 (wE_5 o0.2) rfl 7 (by decide) (hall _ m_341) (fun _ h9 => h9) rfl d_Model_elect_150 ?_
          have o_150 : okA g 7 6 (R a0 7) := ty_Model_7 hT o0
          refine lv_iload_n hx hb d_Model_elect_153 rfl (lv_at hl 1 rfl) ?_
          refine lv_iconst (v := 1) hx hb d_Model_elect_154 (by decide) ?_
          obtain ⟨hi155, h⟩ := chk_el h
          refine gg_zast hx hb hT.1 hK hP hS o_150 hi155 d_Model_elect_155 (fun I155 H locs e155 hP hS => ?_)
          replace h := ap_el e155 h
          refine lv_aload_n hx hb d_Model_elect_156 rfl (lv_at hl 0 rfl) ?_
          refine gg_get (C := R_Model) (T := F_Model) (N := 23) (ci := 5) hx hb hall i_Model hown hK hP o0.1 (wE_5 o0.2) rfl 8 (by decide) (hall _ m_347) (fun _ h9 => h9) rfl d_Model_elect_157 ?_
          have o_157 : okA g 6 6 (R a0 8) := ty_Model_8 hT o0
          refine lv_iload_n hx hb d_Model_elect_160 rfl (lv_at hl 1 rfl) ?_
          refine lv_aload_n hx hb d_Model_elect_161 rfl (lv_at hl 0 rfl) ?_
          refine lv_iload_n hx hb d_Model_elect_162 rfl (lv_at hl 1 rfl) ?_
          obtain ⟨v163, e163, h⟩ := ob_el h
          refine gg_Vi (As := [.int x1]) (rest := [.int x1, .ref (R a0 8)]) (ci := 5) (C := R_Model) (T := F_Model) (N := 23) ⟨hx, hb, hml, hown, hall⟩ (c_Model_earliest l hT o0 e163) (cwV 1 hall (gV m_384 m_385 m_386 m_338 m_333) rfl rfl rfl (by decide +kernel) ⟨Nat.le_of_ble_eq_true rfl, Nat.le_of_ble_eq_true rfl⟩) hK hP hS o0.1 (wE_5 o0.2) rfl rfl hl.1 rfl (Nat.le_of_ble_eq_true rfl) d_Model_elect_163 (fun H locs hP hS => ?_)
          refine lv_bipush (v := 40) hx hb d_Model_elect_166 (by decide) ?_
          refine lv_iadd hx hb d_Model_elect_168 ?_
          obtain ⟨hi169, h⟩ := chk_el h
          refine gg_iast hx hb hT.1 hK hP hS o_157 hi169 d_Model_elect_169 (fun I169 H locs e169 hP hS => ?_)
          replace h := ap_el e169 h
          refine lv_aload_n hx hb d_Model_elect_170 rfl (lv_at hl 0 rfl) ?_
          refine lv_iload_n hx hb d_Model_elect_171 rfl (lv_at hl 1 rfl) ?_
          obtain ⟨v172, e172, h⟩ := ob_el h
          refine gg_Vi (As := [.int x1]) (rest := []) (ci := 5) (C := R_Model) (T := F_Model) (N := 23) ⟨hx, hb, hml, hown, hall⟩ (c_Model_next l hT o0 e172) (cwV 1 hall (gV m_390 m_391 m_392 m_338 m_368) rfl rfl rfl (by decide +kernel) ⟨Nat.le_of_ble_eq_true rfl, Nat.le_of_ble_eq_true rfl⟩) hK hP hS o0.1 (wE_5 o0.2) rfl rfl hl.1 rfl (Nat.le_of_ble_eq_true rfl) d_Model_elect_172 (fun H locs hP hS => ?_)
          refine lv_istore (lv' := [(5, .int v172), (0, .ref a0), (1, .int x1), (2, .int x2), (3, .int x3), (4, .int x4)]) hx hb d_Model_elect_175 hl (Nat.le_of_ble_eq_true rfl) rfl (fun ls hl => ?_)
          refine lv_aload_n hx hb d_Model_elect_177 rfl (lv_at hl 1 rfl) ?_
          refine lv_iload_n hx hb d_Model_elect_178 rfl (lv_at hl 2 rfl) ?_
          refine lv_iload hx hb d_Model_elect_179 (lv_at hl 0 rfl) ?_
          obtain ⟨v181, e181, h⟩ := ob_el h
          refine gg_Vi (As := [.int x1, .int v172]) (rest := []) (ci := 5) (C := R_Model) (T := F_Model) (N := 23) ⟨hx, hb, hml, hown, hall⟩ (c_Model_bars l hT o0 e181) (cwV 2 hall (gV m_393 m_394 m_395 m_338 m_369) rfl rfl rfl (by decide +kernel) ⟨Nat.le_of_ble_eq_true rfl, Nat.le_of_ble_eq_true rfl⟩) hK hP hS o0.1 (wE_5 o0.2) rfl rfl hl.1 rfl (Nat.le_of_ble_eq_true rfl) d_Model_elect_181 (fun H locs hP hS => ?_)
          refine lv_if_ne hx hb d_Model_elect_184 rfl (fun hc => ?_) (fun hc => ?_)
          · replace h := i_neg hc h
            exact b_Model_elect_197 cx _ _ _ _ _ h hP hS (lv_sub hl [3] rfl)
          · replace h := i_pos hc h
            refine lv_aload_n hx hb d_Model_elect_187 rfl (lv_at hl 1 rfl) ?_
            refine lv_iload_n hx hb d_Model_elect_188 rfl (lv_at hl 2 rfl) ?_
            refine lv_iconst (v := 0) hx hb d_Model_elect_189 (by decide) ?_
            refine lv_iconst (v := (-1)) hx hb d_Model_elect_190 (by decide) ?_
            refine lv_iconst (v := (-1)) hx hb d_Model_elect_191 (by decide) ?_
            refine lv_iload hx hb d_Model_elect_192 (lv_at hl 0 rfl) ?_
            obtain ⟨I194, e194, h⟩ := ob_el h
            refine gg_Vv (As := [.int x1, .int (0 : Int32), .int (-1 : Int32), .int (-1 : Int32), .int v172]) (rest := []) (ci := 5) (C := R_Model) (T := F_Model) (N := 23) ⟨hx, hb, hml, hown, hall⟩ (c_Model_put l hT o0 e194) (cwV 5 hall (gV m_396 m_397 m_398 m_338 m_371) rfl rfl rfl (by decide +kernel) ⟨Nat.le_of_ble_eq_true rfl, Nat.le_of_ble_eq_true rfl⟩) hK hP hS o0.1 (wE_5 o0.2) rfl rfl hl.1 rfl (Nat.le_of_ble_eq_true rfl) d_Model_elect_194 (fun H locs hP hS => ?_)
            exact b_Model_elect_197 cx _ _ _ _ _ h hP hS (lv_sub hl [3] rfl)
        · replace h := i_pos hc h
          exact b_Model_elect_147 cx _ _ _ _ h hP hS (lv_sub hl [] rfl)
    · replace h := i_neg hc h
      refine lv_aload_n hx hb d_Model_elect_68 rfl (lv_at hl 0 rfl) ?_
      refine lv_iload hx hb d_Model_elect_69 (lv_at hl 5 rfl) ?_
      refine lv_iload_n hx hb d_Model_elect_71 rfl (lv_at hl 1 rfl) ?_
      refine lv_iload_n hx hb d_Model_elect_72 rfl (lv_at hl 2 rfl) ?_
      obtain ⟨v73, e73, h⟩ := ob_el h
      refine gg_Vi (As := [.int x5, .int x1, .int x2]) (rest := []) (ci := 5) (C := R_Model) (T := F_Model) (N := 23) ⟨hx, hb, hml, hown, hall⟩ (c_Model_grants l hT o0 e73) (cwV 3 hall (gV m_399 m_400 m_401 m_338 m_388) rfl rfl rfl (by decide +kernel) ⟨Nat.le_of_ble_eq_true rfl, Nat.le_of_ble_eq_true rfl⟩) hK hP hS o0.1 (wE_5 o0.2) rfl rfl hl.1 rfl (Nat.le_of_ble_eq_true rfl) d_Model_elect_73 (fun H locs hP hS => ?_)
      refine lv_if_eq hx hb d_Model_elect_76 rfl (fun hc => ?_) (fun hc => ?_)
      · replace h := i_pos hc h
        exact b_Model_elect_132 cx ih _ _ _ _ _ _ _ _ _ _ o0 h hP hS (lv_sub hl [0, 1, 2, 3, 4, 5] rfl)
      · replace h := i_neg hc h
        refine lv_aload_n hx hb d_Model_elect_79 rfl (lv_at hl 0 rfl) ?_
        refine lv_iload hx hb d_Model_elect_80 (lv_at hl 5 rfl) ?_
        refine lv_iload_n hx hb d_Model_elect_82 rfl (lv_at hl 2 rfl) ?_
        obtain ⟨I83, e83, h⟩ := ob_el h
        refine gg_Vv (As := [.int x5, .int x2]) (rest := []) (ci := 5) (C := R_Model) (T := F_Model) (N := 23) ⟨hx, hb, hml, hown, hall⟩ (c_Model_raise l hT o0 e83) (cwV 2 hall (gV m_402 m_403 m_404 m_338 m_379) rfl rfl rfl (by decide +kernel) ⟨Nat.le_of_ble_eq_true rfl, Nat.le_of_ble_eq_true rfl⟩) hK hP hS o0.1 (wE_5 o0.2) rfl rfl hl.1 rfl (Nat.le_of_ble_eq_true rfl) d_Model_elect_83 (fun H locs hP hS => ?_)
        refine lv_aload_n hx hb d_Model_elect_86 rfl (lv_at hl 0 rfl) ?_
        refine lv_iload hx hb d_Model_elect_87 (lv_at hl 5 rfl) ?_
        obtain ⟨I89, e89, h⟩ := ob_el h
        refine gg_Vv (As := [.int x5]) (rest := []) (ci := 5) (C := R_Model) (T := F_Model) (N := 23) ⟨hx, hb, hml, hown, hall⟩ (c_Model_promise l hT o0 e89) (cwV 1 hall (gV m_405 m_406 m_407 m_338 m_389) rfl rfl rfl (by decide +kernel) ⟨Nat.le_of_ble_eq_true rfl, Nat.le_of_ble_eq_true rfl⟩) hK hP hS o0.1 (wE_5 o0.2) rfl rfl hl.1 rfl (Nat.le_of_ble_eq_true rfl) d_Model_elect_89 (fun H locs hP hS => ?_)
        refine lv_aload_n hx hb d_Model_elect_92 rfl (lv_at hl 0 rfl) ?_
        refine gg_get (C := R_Model) (T := F_Model) (N := 23) (ci := 5) hx hb hall i_Model hown hK hP o0.1 (wE_5 o0.2) rfl 6 (by decide) (hall _ m_383) (fun _ h9 => h9) rfl d_Model_elect_93 ?_
        have o_93 : okA g 6 6 (R a0 6) := ty_Model_6 hT o0
        refine lv_iload hx hb d_Model_elect_96 (lv_at hl 5 rfl) ?_
        refine lv_iload_n hx hb d_Model_elect_98 rfl (lv_at hl 1 rfl) ?_
        obtain ⟨hi99, h⟩ := chk_el h
        refine gg_iast hx hb hT.1 hK hP hS o_93 hi99 d_Model_elect_99 (fun I99 H locs e99 hP hS => ?_)
        replace h := ap_el e99 h
        refine lv_iload_n hx hb d_Model_elect_100 rfl (lv_at hl 3 rfl) ?_
        refine lv_if_ne hx hb d_Model_elect_101 rfl (fun hc => ?_) (fun hc => ?_)
        · replace h := i_neg hc h
          exact b_Model_elect_110 cx ih _ _ _ _ _ _ _ _ _ o0 h hP hS (lv_sub hl [0, 1, 2, 4, 5] rfl)
        · replace h := i_pos hc h
          refine lv_iload hx hb d_Model_elect_104 (lv_at hl 5 rfl) ?_
          refine lv_iload_n hx hb d_Model_elect_106 rfl (lv_at hl 1 rfl) ?_
          refine lv_icmp_ne hx hb d_Model_elect_107 rfl (fun hc => ?_) (fun hc => ?_)
          · replace h := i_neg hc h
            refine lv_iconst (v := 0) hx hb d_Model_elect_114 (by decide) ?_
            exact b_Model_elect_115 cx ih _ _ _ _ _ _ _ _ _ _ o0 h hP hS (lv_sub hl [0, 1, 2, 4, 5] rfl)
          · replace h := i_pos hc h
            exact b_Model_elect_110 cx ih _ _ _ _ _ _ _ _ _ o0 h hP hS (lv_sub hl [0, 1, 2, 4, 5] rfl)
def B_Model_elect_29 (R : Nat → Nat → Nat) : Nat → Nat → Int32 → Int32 → St → Option (Int32 × St)
  | 0, _, _, _, _ => none
  | f + 1, a0, x1, x2, I => (if (x2 - x2 / (3 : Int32) * (3 : Int32)) = (x1 - x1 / (3 : Int32) * (3 : Int32)) then B_Model_elect_56 R 100 a0 x1 x2 (0 : Int32) (0 : Int32) ((x1 / (3 : Int32)) * (3 : Int32)) I else B_Model_elect_29 R f a0 x1 (x2 + 1) I)
set_option maxHeartbeats 4000000 in
set_option maxRecDepth 100000 in
theorem b_Model_elect_29 {p : Program} {l : Launch} {e : Env} {s : State} {m : MethodId} {args : Array Value} {below : List Frame} {meth : Method} {c : Code} {g : Sg} {R : Nat → Nat → Nat} {J : St} {v : Int32} (cx : Cx p s m args meth c g R R_Model b_Model_elect 6 (some .int)) (f : Nat) : ∀ (a0 : Nat) (x1 : Int32) (x2 : Int32) (I : St) (H : Heap) (locs : List Loc) (ls : Array Slot), okA g 5 0 a0 → B_Model_elect_29 R f a0 x1 x2 I = some (v, J) → wW g R I H → va_S (· ∈ g.L) s.heap H locs → lv_has ls 6 [(0, .ref a0), (1, .int x1), (2, .int x2)] → W p l e { frames := 2, cells := 0, slots := 0, locals := 46 } s m args below meth c H locs 0 0 (MQ below (Qi g R v J) args s 0 0 (· ∈ g.L)) (F0 m 29 ls []) := by
  have ⟨hx, hb, hml, hr, hlk, hown, hall, hT, hK⟩ := cx
  induction f with
  | zero => intro a0 x1 x2 I H locs ls o0 h; unfold B_Model_elect_29 at h; cases h
  | succ f ih =>
    intro a0 x1 x2 I H locs ls o0 h hP hS hl
    unfold B_Model_elect_29 at h
    refine lv_iload_n hx hb d_Model_elect_29 rfl (lv_at hl 2 rfl) ?_
    refine lv_iconst (v := 3) hx hb d_Model_elect_30 (by decide) ?_
    refine lv_irem hx hb d_Model_elect_31 (by decide) ?_
    refine lv_iload_n hx hb d_Model_elect_32 rfl (lv_at hl 1 rfl) ?_
    refine lv_iconst (v := 3) hx hb d_Model_elect_33 (by decide) ?_
    refine lv_irem hx hb d_Model_elect_34 (by decide) ?_
    refine lv_icmp_eq hx hb d_Model_elect_35 rfl (fun hc => ?_) (fun hc => ?_)
    · replace h := i_pos hc h
      refine lv_iconst (v := 0) hx hb d_Model_elect_44 (by decide) ?_
      refine lv_istore_n (lv' := [(3, .int (0 : Int32)), (0, .ref a0), (1, .int x1), (2, .int x2)]) hx hb d_Model_elect_45 rfl hl (Nat.le_of_ble_eq_true rfl) rfl (fun ls hl => ?_)
      refine lv_iconst (v := 0) hx hb d_Model_elect_46 (by decide) ?_
      refine lv_istore (lv' := [(4, .int (0 : Int32)), (3, .int (0 : Int32)), (0, .ref a0), (1, .int x1), (2, .int x2)]) hx hb d_Model_elect_47 hl (Nat.le_of_ble_eq_true rfl) rfl (fun ls hl => ?_)
      refine lv_iload_n hx hb d_Model_elect_49 rfl (lv_at hl 3 rfl) ?_
      refine lv_iconst (v := 3) hx hb d_Model_elect_50 (by decide) ?_
      refine lv_idiv hx hb d_Model_elect_51 (by decide) ?_
      refine lv_iconst (v := 3) hx hb d_Model_elect_52 (by decide) ?_
      refine lv_imul hx hb d_Model_elect_53 ?_
      refine lv_istore (lv' := [(5, .int ((x1 / (3 : Int32)) * (3 : Int32))), (4, .int (0 : Int32)), (3, .int (0 : Int32)), (0, .ref a0), (1, .int x1), (2, .int x2)]) hx hb d_Model_elect_54 hl (Nat.le_of_ble_eq_true rfl) rfl (fun ls hl => ?_)
      exact b_Model_elect_56 cx 100 _ _ _ _ _ _ _ _ _ _ o0 h hP hS (lv_sub hl [3, 4, 5, 2, 1, 0] rfl)
    · replace h := i_neg hc h
      refine lv_iinc (k := 2) (v := (x2 + 1)) (lv' := [(2, .int (x2 + 1)), (0, .ref a0), (1, .int x1)]) hx hb d_Model_elect_38 hl rfl (by rw [show Int32.ofInt 1 = (1 : Int32) from by decide]) (Nat.le_of_ble_eq_true rfl) rfl (fun ls hl => ?_)
      refine lv_goto hx hb d_Model_elect_41 rfl ?_
      exact ih _ _ _ _ _ _ _ o0 h hP hS (lv_sub hl [1, 2, 0] rfl)
def F_Model_elect (R : Nat → Nat → Nat) (a0 : Nat) (x1 : Int32) (I : St) : Option (Int32 × St) := (ob (F_Model_below R x1 (6 : Int32) I) (fun v3 => (if v3 = 0 then B_Model_elect_18 R I else (chk x1 6 ((if (I (R a0 2) x1.toNatClampNeg) = 0 then (chk x1 6 (B_Model_elect_29 R 100 a0 x1 ((I (R a0 4) x1.toNatClampNeg) + (1 : Int32)) I)) else B_Model_elect_18 R I))))))
set_option maxHeartbeats 4000000 in
set_option maxRecDepth 100000 in
theorem c_Model_elect (l : Launch) {g : Sg} {R : Nat → Nat → Nat} (hT : Ty g R) {a0 : Nat} (o0 : okA g 5 0 a0) {x1 : Int32} {I : St} {J : St} {v : Int32} (h : F_Model_elect R a0 x1 I = some (v, J)) : Cti l g R y_Model_elect w_Model_elect 2 46 [.ref a0, .int x1] I v J := by
  unfold Cti
  refine Met.ofW (cc := b_Model_elect) (maxL := 6) (ret := (some .int)) (by decide) rfl ?_
  intro p e s m args below meth c s₁ B hml hv
  obtain ⟨rfl, hP, hK⟩ := hv
  have hts := atoms_spec (ws := w_Model_elect) B.pre
  have hall : ∀ w ∈ w_all, w.before _ s = true := fun w hw => hts w (List.mem_cons_of_mem _ hw)
  have hown : s.vm.findClass R_Model = some m.cls := findClass_of_methodNamed B.named
  have hx := B.exec
  have hb := B.bytes
  have hr := B.returns
  have hlk := B.notSynchronized
  have cx : Cx p s m _ meth c g R R_Model b_Model_elect 6 (some .int) := ⟨hx, hb, hml, hr, hlk, hown, hall, hT, hK⟩
  have hl := lv_entry ([.ref a0, .int x1]) (n := 6) (Nat.le_of_ble_eq_true rfl)
  rw [lg_entry_eq]
  generalize (lg_sl ([.ref a0, .int x1]) ++ List.replicate (6 - (lg_sl ([.ref a0, .int x1])).length) Slot.unset).toArray = ls at hl ⊢
  have hl : lv_has ls 6 [(0, .ref a0), (1, .int x1)] := hl
  have hS : va_S (· ∈ g.L) s.heap s.heap [] := va_S.rf
  unfold F_Model_elect at h
  refine lv_iload_n hx hb d_Model_elect_0 rfl (lv_at hl 1 rfl) ?_
  refine lv_bipush (v := 6) hx hb d_Model_elect_1 (by decide) ?_
  obtain ⟨v3, e3, h⟩ := ob_el h
  refine gg_Si (As := [.int x1, .int (6 : Int32)]) (rest := []) ⟨hx, hb, hml, hown, hall⟩ (c_Model_below l hT e3) (cwS 2 hall (gS m_336 m_337 m_338 m_329) rfl rfl rfl (by decide +kernel) ⟨Nat.le_of_ble_eq_true rfl, Nat.le_of_ble_eq_true rfl⟩) hK hP hS rfl hl.1 rfl (Nat.le_of_ble_eq_true rfl) d_Model_elect_3 (fun H locs hP hS => ?_)
  refine lv_if_eq hx hb d_Model_elect_6 rfl (fun hc => ?_) (fun hc => ?_)
  · replace h := i_pos hc h
    exact b_Model_elect_18 cx _ _ _ _ h hP hS (lv_sub hl [] rfl)
  · replace h := i_neg hc h
    refine lv_aload_n hx hb d_Model_elect_9 rfl (lv_at hl 0 rfl) ?_
    refine gg_get (C := R_Model) (T := F_Model) (N := 23) (ci := 5) hx hb hall i_Model hown hK hP o0.1 (wE_5 o0.2) rfl 2 (by decide) (hall _ m_340) (fun _ h9 => h9) rfl d_Model_elect_10 ?_
    have o_10 : okA g 7 6 (R a0 2) := ty_Model_2 hT o0
    refine lv_iload_n hx hb d_Model_elect_13 rfl (lv_at hl 1 rfl) ?_
    obtain ⟨hi14, h⟩ := chk_el h
    refine gg_zald hx hb hK hP o_10 hi14 d_Model_elect_14 ?_
    refine lv_if_eq hx hb d_Model_elect_15 rfl (fun hc => ?_) (fun hc => ?_)
    · replace h := i_pos hc h
      refine lv_aload_n hx hb d_Model_elect_20 rfl (lv_at hl 0 rfl) ?_
      refine gg_get (C := R_Model) (T := F_Model) (N := 23) (ci := 5) hx hb hall i_Model hown hK hP o0.1 (wE_5 o0.2) rfl 4 (by decide) (hall _ m_354) (fun _ h9 => h9) rfl d_Model_elect_21 ?_
      have o_21 : okA g 6 6 (R a0 4) := ty_Model_4 hT o0
      refine lv_iload_n hx hb d_Model_elect_24 rfl (lv_at hl 1 rfl) ?_
      obtain ⟨hi25, h⟩ := chk_el h
      refine gg_iald hx hb hK hP o_21 hi25 d_Model_elect_25 ?_
      refine lv_iconst (v := 1) hx hb d_Model_elect_26 (by decide) ?_
      refine lv_iadd hx hb d_Model_elect_27 ?_
      refine lv_istore_n (lv' := [(2, .int ((I (R a0 4) x1.toNatClampNeg) + (1 : Int32))), (0, .ref a0), (1, .int x1)]) hx hb d_Model_elect_28 rfl hl (Nat.le_of_ble_eq_true rfl) rfl (fun ls hl => ?_)
      exact b_Model_elect_29 cx 100 _ _ _ _ _ _ _ o0 h hP hS (lv_sub hl [1, 2, 0] rfl)
    · replace h := i_neg hc h
      exact b_Model_elect_18 cx _ _ _ _ h hP hS (lv_sub hl [] rfl)
abbrev b_Model_beat : ByteArray := prog_7_method_24_code
def y_Model_beat : MethodName := ⟨"StampedStoreModel", "beat", "(I)I"⟩
def w_Model_beat : List Cond := .code y_Model_beat b_Model_beat 6 (some .int) :: w_all
theorem d_Model_beat_0 : decode b_Model_beat 0 = .ok (.iload_n 1, 1) := by decide +kernel
theorem d_Model_beat_1 : decode b_Model_beat 1 = .ok (.bipush 6, 2) := by decide +kernel
theorem d_Model_beat_3 : decode b_Model_beat 3 = .ok (.invokestatic 78, 3) := by decide +kernel
theorem d_Model_beat_6 : decode b_Model_beat 6 = .ok (.ifCond .eq 21, 3) := by decide +kernel
theorem d_Model_beat_9 : decode b_Model_beat 9 = .ok (.aload_n 0, 1) := by decide +kernel
theorem d_Model_beat_10 : decode b_Model_beat 10 = .ok (.getfield 7, 3) := by decide +kernel
theorem d_Model_beat_13 : decode b_Model_beat 13 = .ok (.iload_n 1, 1) := by decide +kernel
theorem d_Model_beat_14 : decode b_Model_beat 14 = .ok (.baload, 1) := by decide +kernel
theorem d_Model_beat_15 : decode b_Model_beat 15 = .ok (.ifCond .ne 12, 3) := by decide +kernel
theorem d_Model_beat_18 : decode b_Model_beat 18 = .ok (.aload_n 0, 1) := by decide +kernel
theorem d_Model_beat_19 : decode b_Model_beat 19 = .ok (.getfield 26, 3) := by decide +kernel
theorem d_Model_beat_22 : decode b_Model_beat 22 = .ok (.iload_n 1, 1) := by decide +kernel
theorem d_Model_beat_23 : decode b_Model_beat 23 = .ok (.baload, 1) := by decide +kernel
theorem d_Model_beat_24 : decode b_Model_beat 24 = .ok (.ifCond .ne 5, 3) := by decide +kernel
theorem d_Model_beat_27 : decode b_Model_beat 27 = .ok (.iconst (-1), 1) := by decide +kernel
theorem d_Model_beat_28 : decode b_Model_beat 28 = .ok (.ireturn, 1) := by decide +kernel
theorem d_Model_beat_29 : decode b_Model_beat 29 = .ok (.iconst 0, 1) := by decide +kernel
theorem d_Model_beat_30 : decode b_Model_beat 30 = .ok (.istore_n 2, 1) := by decide +kernel
theorem d_Model_beat_31 : decode b_Model_beat 31 = .ok (.iload_n 1, 1) := by decide +kernel
theorem d_Model_beat_32 : decode b_Model_beat 32 = .ok (.iconst 3, 1) := by decide +kernel
theorem d_Model_beat_33 : decode b_Model_beat 33 = .ok (.idiv, 1) := by decide +kernel
theorem d_Model_beat_34 : decode b_Model_beat 34 = .ok (.iconst 3, 1) := by decide +kernel
theorem d_Model_beat_35 : decode b_Model_beat 35 = .ok (.imul, 1) := by decide +kernel
theorem d_Model_beat_36 : decode b_Model_beat 36 = .ok (.istore_n 3, 1) := by decide +kernel
theorem d_Model_beat_37 : decode b_Model_beat 37 = .ok (.iload_n 3, 1) := by decide +kernel
theorem d_Model_beat_38 : decode b_Model_beat 38 = .ok (.iload_n 1, 1) := by decide +kernel
theorem d_Model_beat_39 : decode b_Model_beat 39 = .ok (.iconst 3, 1) := by decide +kernel
theorem d_Model_beat_40 : decode b_Model_beat 40 = .ok (.idiv, 1) := by decide +kernel
theorem d_Model_beat_41 : decode b_Model_beat 41 = .ok (.iconst 3, 1) := by decide +kernel
theorem d_Model_beat_42 : decode b_Model_beat 42 = .ok (.imul, 1) := by decide +kernel
theorem d_Model_beat_43 : decode b_Model_beat 43 = .ok (.iconst 3, 1) := by decide +kernel
theorem d_Model_beat_44 : decode b_Model_beat 44 = .ok (.iadd, 1) := by decide +kernel
theorem d_Model_beat_45 : decode b_Model_beat 45 = .ok (.if_icmp .ge 48, 3) := by decide +kernel
theorem d_Model_beat_48 : decode b_Model_beat 48 = .ok (.aload_n 0, 1) := by decide +kernel
theorem d_Model_beat_49 : decode b_Model_beat 49 = .ok (.getfield 7, 3) := by decide +kernel
theorem d_Model_beat_52 : decode b_Model_beat 52 = .ok (.iload_n 3, 1) := by decide +kernel
theorem d_Model_beat_53 : decode b_Model_beat 53 = .ok (.baload, 1) := by decide +kernel
theorem d_Model_beat_54 : decode b_Model_beat 54 = .ok (.ifCond .ne 33, 3) := by decide +kernel
theorem d_Model_beat_57 : decode b_Model_beat 57 = .ok (.aload_n 0, 1) := by decide +kernel
theorem d_Model_beat_58 : decode b_Model_beat 58 = .ok (.getfield 17, 3) := by decide +kernel
theorem d_Model_beat_61 : decode b_Model_beat 61 = .ok (.iload_n 3, 1) := by decide +kernel
theorem d_Model_beat_62 : decode b_Model_beat 62 = .ok (.iaload, 1) := by decide +kernel
theorem d_Model_beat_63 : decode b_Model_beat 63 = .ok (.aload_n 0, 1) := by decide +kernel
theorem d_Model_beat_64 : decode b_Model_beat 64 = .ok (.getfield 17, 3) := by decide +kernel
theorem d_Model_beat_67 : decode b_Model_beat 67 = .ok (.iload_n 1, 1) := by decide +kernel
theorem d_Model_beat_68 : decode b_Model_beat 68 = .ok (.iaload, 1) := by decide +kernel
theorem d_Model_beat_69 : decode b_Model_beat 69 = .ok (.if_icmp .ne 18, 3) := by decide +kernel
theorem d_Model_beat_72 : decode b_Model_beat 72 = .ok (.aload_n 0, 1) := by decide +kernel
theorem d_Model_beat_73 : decode b_Model_beat 73 = .ok (.iload_n 3, 1) := by decide +kernel
theorem d_Model_beat_74 : decode b_Model_beat 74 = .ok (.invokevirtual 114, 3) := by decide +kernel
theorem d_Model_beat_77 : decode b_Model_beat 77 = .ok (.aload_n 0, 1) := by decide +kernel
theorem d_Model_beat_78 : decode b_Model_beat 78 = .ok (.getfield 23, 3) := by decide +kernel
theorem d_Model_beat_81 : decode b_Model_beat 81 = .ok (.iload_n 3, 1) := by decide +kernel
theorem d_Model_beat_82 : decode b_Model_beat 82 = .ok (.iload_n 1, 1) := by decide +kernel
theorem d_Model_beat_83 : decode b_Model_beat 83 = .ok (.iastore, 1) := by decide +kernel
theorem d_Model_beat_84 : decode b_Model_beat 84 = .ok (.iinc 2 1, 3) := by decide +kernel
theorem d_Model_beat_87 : decode b_Model_beat 87 = .ok (.iinc 3 1, 3) := by decide +kernel
theorem d_Model_beat_90 : decode b_Model_beat 90 = .ok (.goto (-53), 3) := by decide +kernel
theorem d_Model_beat_93 : decode b_Model_beat 93 = .ok (.aload_n 0, 1) := by decide +kernel
theorem d_Model_beat_94 : decode b_Model_beat 94 = .ok (.iload_n 1, 1) := by decide +kernel
theorem d_Model_beat_95 : decode b_Model_beat 95 = .ok (.invokevirtual 100, 3) := by decide +kernel
theorem d_Model_beat_98 : decode b_Model_beat 98 = .ok (.bipush 40, 2) := by decide +kernel
theorem d_Model_beat_100 : decode b_Model_beat 100 = .ok (.iadd, 1) := by decide +kernel
theorem d_Model_beat_101 : decode b_Model_beat 101 = .ok (.istore_n 3, 1) := by decide +kernel
theorem d_Model_beat_102 : decode b_Model_beat 102 = .ok (.aload_n 0, 1) := by decide +kernel
theorem d_Model_beat_103 : decode b_Model_beat 103 = .ok (.getfield 29, 3) := by decide +kernel
theorem d_Model_beat_106 : decode b_Model_beat 106 = .ok (.iload_n 1, 1) := by decide +kernel
theorem d_Model_beat_107 : decode b_Model_beat 107 = .ok (.iload_n 2, 1) := by decide +kernel
theorem d_Model_beat_108 : decode b_Model_beat 108 = .ok (.iconst 2, 1) := by decide +kernel
theorem d_Model_beat_109 : decode b_Model_beat 109 = .ok (.if_icmp .lt 17, 3) := by decide +kernel
theorem d_Model_beat_112 : decode b_Model_beat 112 = .ok (.iload_n 3, 1) := by decide +kernel
theorem d_Model_beat_113 : decode b_Model_beat 113 = .ok (.aload_n 0, 1) := by decide +kernel
theorem d_Model_beat_114 : decode b_Model_beat 114 = .ok (.getfield 29, 3) := by decide +kernel
theorem d_Model_beat_117 : decode b_Model_beat 117 = .ok (.iload_n 1, 1) := by decide +kernel
theorem d_Model_beat_118 : decode b_Model_beat 118 = .ok (.iaload, 1) := by decide +kernel
theorem d_Model_beat_119 : decode b_Model_beat 119 = .ok (.if_icmp .le 7, 3) := by decide +kernel
theorem d_Model_beat_122 : decode b_Model_beat 122 = .ok (.iload_n 3, 1) := by decide +kernel
theorem d_Model_beat_123 : decode b_Model_beat 123 = .ok (.goto 9, 3) := by decide +kernel
theorem d_Model_beat_126 : decode b_Model_beat 126 = .ok (.aload_n 0, 1) := by decide +kernel
theorem d_Model_beat_127 : decode b_Model_beat 127 = .ok (.getfield 29, 3) := by decide +kernel
theorem d_Model_beat_130 : decode b_Model_beat 130 = .ok (.iload_n 1, 1) := by decide +kernel
theorem d_Model_beat_131 : decode b_Model_beat 131 = .ok (.iaload, 1) := by decide +kernel
theorem d_Model_beat_132 : decode b_Model_beat 132 = .ok (.iastore, 1) := by decide +kernel
theorem d_Model_beat_133 : decode b_Model_beat 133 = .ok (.aload_n 0, 1) := by decide +kernel
theorem d_Model_beat_134 : decode b_Model_beat 134 = .ok (.iload_n 1, 1) := by decide +kernel
theorem d_Model_beat_135 : decode b_Model_beat 135 = .ok (.invokevirtual 86, 3) := by decide +kernel
theorem d_Model_beat_138 : decode b_Model_beat 138 = .ok (.ifCond .ne 6, 3) := by decide +kernel
theorem d_Model_beat_141 : decode b_Model_beat 141 = .ok (.bipush (-7), 2) := by decide +kernel
theorem d_Model_beat_143 : decode b_Model_beat 143 = .ok (.ireturn, 1) := by decide +kernel
theorem d_Model_beat_144 : decode b_Model_beat 144 = .ok (.aload_n 0, 1) := by decide +kernel
theorem d_Model_beat_145 : decode b_Model_beat 145 = .ok (.iload_n 1, 1) := by decide +kernel
theorem d_Model_beat_146 : decode b_Model_beat 146 = .ok (.invokevirtual 118, 3) := by decide +kernel
theorem d_Model_beat_149 : decode b_Model_beat 149 = .ok (.istore 4, 2) := by decide +kernel
theorem d_Model_beat_151 : decode b_Model_beat 151 = .ok (.aload_n 0, 1) := by decide +kernel
theorem d_Model_beat_152 : decode b_Model_beat 152 = .ok (.iload_n 1, 1) := by decide +kernel
theorem d_Model_beat_153 : decode b_Model_beat 153 = .ok (.iload 4, 2) := by decide +kernel
theorem d_Model_beat_155 : decode b_Model_beat 155 = .ok (.invokevirtual 121, 3) := by decide +kernel
theorem d_Model_beat_158 : decode b_Model_beat 158 = .ok (.istore 5, 2) := by decide +kernel
theorem d_Model_beat_160 : decode b_Model_beat 160 = .ok (.iload 5, 2) := by decide +kernel
theorem d_Model_beat_162 : decode b_Model_beat 162 = .ok (.ifCond .ge 6, 3) := by decide +kernel
theorem d_Model_beat_165 : decode b_Model_beat 165 = .ok (.iload 5, 2) := by decide +kernel
theorem d_Model_beat_167 : decode b_Model_beat 167 = .ok (.ireturn, 1) := by decide +kernel
theorem d_Model_beat_168 : decode b_Model_beat 168 = .ok (.aload_n 0, 1) := by decide +kernel
theorem d_Model_beat_169 : decode b_Model_beat 169 = .ok (.iload_n 1, 1) := by decide +kernel
theorem d_Model_beat_170 : decode b_Model_beat 170 = .ok (.iconst 0, 1) := by decide +kernel
theorem d_Model_beat_171 : decode b_Model_beat 171 = .ok (.iconst (-1), 1) := by decide +kernel
theorem d_Model_beat_172 : decode b_Model_beat 172 = .ok (.iconst (-1), 1) := by decide +kernel
theorem d_Model_beat_173 : decode b_Model_beat 173 = .ok (.iload 4, 2) := by decide +kernel
theorem d_Model_beat_175 : decode b_Model_beat 175 = .ok (.invokevirtual 125, 3) := by decide +kernel
theorem d_Model_beat_178 : decode b_Model_beat 178 = .ok (.iload 4, 2) := by decide +kernel
theorem d_Model_beat_180 : decode b_Model_beat 180 = .ok (.ireturn, 1) := by decide +kernel
def B_Model_beat_27 (R : Nat → Nat → Nat) (I : St) : Option (Int32 × St) := some ((-1 : Int32), I)
set_option maxHeartbeats 4000000 in
set_option maxRecDepth 100000 in
theorem b_Model_beat_27 {p : Program} {l : Launch} {e : Env} {s : State} {m : MethodId} {args : Array Value} {below : List Frame} {meth : Method} {c : Code} {g : Sg} {R : Nat → Nat → Nat} {J : St} {v : Int32} (cx : Cx p s m args meth c g R R_Model b_Model_beat 6 (some .int)) : ∀ (I : St) (H : Heap) (locs : List Loc) (ls : Array Slot), B_Model_beat_27 R I = some (v, J) → wW g R I H → va_S (· ∈ g.L) s.heap H locs → lv_has ls 6 [] → W p l e { frames := 2, cells := 0, slots := 0, locals := 44 } s m args below meth c H locs 0 0 (MQ below (Qi g R v J) args s 0 0 (· ∈ g.L)) (F0 m 27 ls []) := by
  have ⟨hx, hb, hml, hr, hlk, hown, hall, hT, hK⟩ := cx
  intro I H locs ls h hP hS hl
  unfold B_Model_beat_27 at h
  refine lv_iconst (v := (-1)) hx hb d_Model_beat_27 (by decide) ?_
  obtain ⟨rfl, rfl⟩ := rt_el h
  exact gg_iret hx hb hr hlk hK hP hS d_Model_beat_28
def B_Model_beat_87 (R : Nat → Nat → Nat) (k37 : Nat → Int32 → Int32 → Int32 → St → Option (Int32 × St)) (a0 : Nat) (x1 : Int32) (x2 : Int32) (x3 : Int32) (I : St) : Option (Int32 × St) := k37 a0 x1 x2 (x3 + 1) I
set_option maxHeartbeats 4000000 in
set_option maxRecDepth 100000 in
theorem b_Model_beat_87 {p : Program} {l : Launch} {e : Env} {s : State} {m : MethodId} {args : Array Value} {below : List Frame} {meth : Method} {c : Code} {g : Sg} {R : Nat → Nat → Nat} {J : St} {v : Int32} (cx : Cx p s m args meth c g R R_Model b_Model_beat 6 (some .int)) {k37 : Nat → Int32 → Int32 → Int32 → St → Option (Int32 × St)} (hk37 : ∀ (a0 : Nat) (x1 : Int32) (x2 : Int32) (x3 : Int32) (I : St) (H : Heap) (locs : List Loc) (ls : Array Slot), okA g 5 0 a0 → k37 a0 x1 x2 x3 I = some (v, J) → wW g R I H → va_S (· ∈ g.L) s.heap H locs → lv_has ls 6 [(0, .ref a0), (1, .int x1), (2, .int x2), (3, .int x3)] → W p l e { frames := 2, cells := 0, slots := 0, locals := 44 } s m args below meth c H locs 0 0 (MQ below (Qi g R v J) args s 0 0 (· ∈ g.L)) (F0 m 37 ls [])) : ∀ (a0 : Nat) (x1 : Int32) (x2 : Int32) (x3 : Int32) (I : St) (H : Heap) (locs : List Loc) (ls : Array Slot), okA g 5 0 a0 → B_Model_beat_87 R k37 a0 x1 x2 x3 I = some (v, J) → wW g R I H → va_S (· ∈ g.L) s.heap H locs → lv_has ls 6 [(0, .ref a0), (1, .int x1), (2, .int x2), (3, .int x3)] → W p l e { frames := 2, cells := 0, slots := 0, locals := 44 } s m args below meth c H locs 0 0 (MQ below (Qi g R v J) args s 0 0 (· ∈ g.L)) (F0 m 87 ls []) := by
  have ⟨hx, hb, hml, hr, hlk, hown, hall, hT, hK⟩ := cx
  intro a0 x1 x2 x3 I H locs ls o0 h hP hS hl
  unfold B_Model_beat_87 at h
  refine lv_iinc (k := 3) (v := (x3 + 1)) (lv' := [(3, .int (x3 + 1)), (0, .ref a0), (1, .int x1), (2, .int x2)]) hx hb d_Model_beat_87 hl rfl (by rw [show Int32.ofInt 1 = (1 : Int32) from by decide]) (Nat.le_of_ble_eq_true rfl) rfl (fun ls hl => ?_)
  refine lv_goto hx hb d_Model_beat_90 rfl ?_
  exact hk37 _ _ _ _ _ _ _ _ o0 h hP hS (lv_sub hl [1, 2, 3, 0] rfl)
def B_Model_beat_132 (R : Nat → Nat → Nat) (a0 : Nat) (x1 : Int32) (u0 : Nat) (t1 : Int32) (t2 : Int32) (I : St) : Option (Int32 × St) := (chk t1 6 (ap (up2 I u0 t1.toNatClampNeg t2) (fun I132 => (ob (F_Model_isActive R a0 x1 I132) (fun v135 => (if v135 = 0 then some ((-7 : Int32), I132) else (ob (F_Model_next R a0 x1 I132) (fun v146 => (ob (F_Model_bars R a0 x1 v146 I132) (fun v155 => (if 0 ≤ v155 then (ob (F_Model_put R a0 x1 (0 : Int32) (-1 : Int32) (-1 : Int32) v146 I132) (fun I175 => some (v146, I175))) else some (v155, I132))))))))))))
set_option maxHeartbeats 4000000 in
set_option maxRecDepth 100000 in
theorem b_Model_beat_132 {p : Program} {l : Launch} {e : Env} {s : State} {m : MethodId} {args : Array Value} {below : List Frame} {meth : Method} {c : Code} {g : Sg} {R : Nat → Nat → Nat} {J : St} {v : Int32} (cx : Cx p s m args meth c g R R_Model b_Model_beat 6 (some .int)) : ∀ (a0 : Nat) (x1 : Int32) (u0 : Nat) (t1 : Int32) (t2 : Int32) (I : St) (H : Heap) (locs : List Loc) (ls : Array Slot), okA g 5 0 a0 → okA g 6 6 u0 → B_Model_beat_132 R a0 x1 u0 t1 t2 I = some (v, J) → wW g R I H → va_S (· ∈ g.L) s.heap H locs → lv_has ls 6 [(0, .ref a0), (1, .int x1)] → W p l e { frames := 2, cells := 0, slots := 0, locals := 44 } s m args below meth c H locs 0 0 (MQ below (Qi g R v J) args s 0 0 (· ∈ g.L)) (F0 m 132 ls [.int t2, .int t1, .ref u0]) := by
  have ⟨hx, hb, hml, hr, hlk, hown, hall, hT, hK⟩ := cx
  intro a0 x1 u0 t1 t2 I H locs ls o0 q0 h hP hS hl
  unfold B_Model_beat_132 at h
  obtain ⟨hi132, h⟩ := chk_el h
  refine gg_iast hx hb hT.1 hK hP hS q0 hi132 d_Model_beat_132 (fun I132 H locs e132 hP hS => ?_)
  replace h := ap_el e132 h
  refine lv_aload_n hx hb d_Model_beat_133 rfl (lv_at hl 0 rfl) ?_
  refine lv_iload_n hx hb d_Model_beat_134 rfl (lv_at hl 1 rfl) ?_
  obtain ⟨v135, e135, h⟩ := ob_el h
  refine gg_Vi (As := [.int x1]) (rest := []) (ci := 5) (C := R_Model) (T := F_Model) (N := 23) ⟨hx, hb, hml, hown, hall⟩ (c_Model_isActive l hT o0 e135) (cwV 1 hall (gV m_350 m_351 m_352 m_338 m_348) rfl rfl rfl (by decide +kernel) ⟨Nat.le_of_ble_eq_true rfl, Nat.le_of_ble_eq_true rfl⟩) hK hP hS o0.1 (wE_5 o0.2) rfl rfl hl.1 rfl (Nat.le_of_ble_eq_true rfl) d_Model_beat_135 (fun H locs hP hS => ?_)
  refine lv_if_ne hx hb d_Model_beat_138 rfl (fun hc => ?_) (fun hc => ?_)
  · replace h := i_neg hc h
    refine lv_aload_n hx hb d_Model_beat_144 rfl (lv_at hl 0 rfl) ?_
    refine lv_iload_n hx hb d_Model_beat_145 rfl (lv_at hl 1 rfl) ?_
    obtain ⟨v146, e146, h⟩ := ob_el h
    refine gg_Vi (As := [.int x1]) (rest := []) (ci := 5) (C := R_Model) (T := F_Model) (N := 23) ⟨hx, hb, hml, hown, hall⟩ (c_Model_next l hT o0 e146) (cwV 1 hall (gV m_390 m_391 m_392 m_338 m_368) rfl rfl rfl (by decide +kernel) ⟨Nat.le_of_ble_eq_true rfl, Nat.le_of_ble_eq_true rfl⟩) hK hP hS o0.1 (wE_5 o0.2) rfl rfl hl.1 rfl (Nat.le_of_ble_eq_true rfl) d_Model_beat_146 (fun H locs hP hS => ?_)
    refine lv_istore (lv' := [(4, .int v146), (0, .ref a0), (1, .int x1)]) hx hb d_Model_beat_149 hl (Nat.le_of_ble_eq_true rfl) rfl (fun ls hl => ?_)
    refine lv_aload_n hx hb d_Model_beat_151 rfl (lv_at hl 1 rfl) ?_
    refine lv_iload_n hx hb d_Model_beat_152 rfl (lv_at hl 2 rfl) ?_
    refine lv_iload hx hb d_Model_beat_153 (lv_at hl 0 rfl) ?_
    obtain ⟨v155, e155, h⟩ := ob_el h
    refine gg_Vi (As := [.int x1, .int v146]) (rest := []) (ci := 5) (C := R_Model) (T := F_Model) (N := 23) ⟨hx, hb, hml, hown, hall⟩ (c_Model_bars l hT o0 e155) (cwV 2 hall (gV m_393 m_394 m_395 m_338 m_369) rfl rfl rfl (by decide +kernel) ⟨Nat.le_of_ble_eq_true rfl, Nat.le_of_ble_eq_true rfl⟩) hK hP hS o0.1 (wE_5 o0.2) rfl rfl hl.1 rfl (Nat.le_of_ble_eq_true rfl) d_Model_beat_155 (fun H locs hP hS => ?_)
    refine lv_istore (lv' := [(5, .int v155), (4, .int v146), (0, .ref a0), (1, .int x1)]) hx hb d_Model_beat_158 hl (Nat.le_of_ble_eq_true rfl) rfl (fun ls hl => ?_)
    refine lv_iload hx hb d_Model_beat_160 (lv_at hl 0 rfl) ?_
    refine lv_if_ge hx hb d_Model_beat_162 rfl (fun hc => ?_) (fun hc => ?_)
    · replace h := i_pos hc h
      refine lv_aload_n hx hb d_Model_beat_168 rfl (lv_at hl 2 rfl) ?_
      refine lv_iload_n hx hb d_Model_beat_169 rfl (lv_at hl 3 rfl) ?_
      refine lv_iconst (v := 0) hx hb d_Model_beat_170 (by decide) ?_
      refine lv_iconst (v := (-1)) hx hb d_Model_beat_171 (by decide) ?_
      refine lv_iconst (v := (-1)) hx hb d_Model_beat_172 (by decide) ?_
      refine lv_iload hx hb d_Model_beat_173 (lv_at hl 1 rfl) ?_
      obtain ⟨I175, e175, h⟩ := ob_el h
      refine gg_Vv (As := [.int x1, .int (0 : Int32), .int (-1 : Int32), .int (-1 : Int32), .int v146]) (rest := []) (ci := 5) (C := R_Model) (T := F_Model) (N := 23) ⟨hx, hb, hml, hown, hall⟩ (c_Model_put l hT o0 e175) (cwV 5 hall (gV m_396 m_397 m_398 m_338 m_371) rfl rfl rfl (by decide +kernel) ⟨Nat.le_of_ble_eq_true rfl, Nat.le_of_ble_eq_true rfl⟩) hK hP hS o0.1 (wE_5 o0.2) rfl rfl hl.1 rfl (Nat.le_of_ble_eq_true rfl) d_Model_beat_175 (fun H locs hP hS => ?_)
      refine lv_iload hx hb d_Model_beat_178 (lv_at hl 1 rfl) ?_
      obtain ⟨rfl, rfl⟩ := rt_el h
      exact gg_iret hx hb hr hlk hK hP hS d_Model_beat_180
    · replace h := i_neg hc h
      refine lv_iload hx hb d_Model_beat_165 (lv_at hl 0 rfl) ?_
      obtain ⟨rfl, rfl⟩ := rt_el h
      exact gg_iret hx hb hr hlk hK hP hS d_Model_beat_167
  · replace h := i_pos hc h
    refine lv_bipush (v := (-7)) hx hb d_Model_beat_141 (by decide) ?_
    obtain ⟨rfl, rfl⟩ := rt_el h
    exact gg_iret hx hb hr hlk hK hP hS d_Model_beat_143
def B_Model_beat_126 (R : Nat → Nat → Nat) (a0 : Nat) (x1 : Int32) (u0 : Nat) (t1 : Int32) (I : St) : Option (Int32 × St) := (chk x1 6 (B_Model_beat_132 R a0 x1 u0 t1 (I (R a0 8) x1.toNatClampNeg) I))
set_option maxHeartbeats 4000000 in
set_option maxRecDepth 100000 in
theorem b_Model_beat_126 {p : Program} {l : Launch} {e : Env} {s : State} {m : MethodId} {args : Array Value} {below : List Frame} {meth : Method} {c : Code} {g : Sg} {R : Nat → Nat → Nat} {J : St} {v : Int32} (cx : Cx p s m args meth c g R R_Model b_Model_beat 6 (some .int)) : ∀ (a0 : Nat) (x1 : Int32) (u0 : Nat) (t1 : Int32) (I : St) (H : Heap) (locs : List Loc) (ls : Array Slot), okA g 5 0 a0 → okA g 6 6 u0 → B_Model_beat_126 R a0 x1 u0 t1 I = some (v, J) → wW g R I H → va_S (· ∈ g.L) s.heap H locs → lv_has ls 6 [(0, .ref a0), (1, .int x1)] → W p l e { frames := 2, cells := 0, slots := 0, locals := 44 } s m args below meth c H locs 0 0 (MQ below (Qi g R v J) args s 0 0 (· ∈ g.L)) (F0 m 126 ls [.int t1, .ref u0]) := by
  have ⟨hx, hb, hml, hr, hlk, hown, hall, hT, hK⟩ := cx
  intro a0 x1 u0 t1 I H locs ls o0 q0 h hP hS hl
  unfold B_Model_beat_126 at h
  refine lv_aload_n hx hb d_Model_beat_126 rfl (lv_at hl 0 rfl) ?_
  refine gg_get (C := R_Model) (T := F_Model) (N := 23) (ci := 5) hx hb hall i_Model hown hK hP o0.1 (wE_5 o0.2) rfl 8 (by decide) (hall _ m_347) (fun _ h9 => h9) rfl d_Model_beat_127 ?_
  have o_127 : okA g 6 6 (R a0 8) := ty_Model_8 hT o0
  refine lv_iload_n hx hb d_Model_beat_130 rfl (lv_at hl 1 rfl) ?_
  obtain ⟨hi131, h⟩ := chk_el h
  refine gg_iald hx hb hK hP o_127 hi131 d_Model_beat_131 ?_
  exact b_Model_beat_132 cx _ _ _ _ _ _ _ _ _ o0 q0 h hP hS (lv_sub hl [0, 1] rfl)
def B_Model_beat_37 (R : Nat → Nat → Nat) : Nat → Nat → Int32 → Int32 → Int32 → St → Option (Int32 × St)
  | 0, _, _, _, _, _ => none
  | f + 1, a0, x1, x2, x3, I => (if (((x1 / (3 : Int32)) * (3 : Int32)) + (3 : Int32)) ≤ x3 then (ob (F_Model_earliest R a0 x1 I) (fun v95 => (if x2 < (2 : Int32) then B_Model_beat_126 R a0 x1 (R a0 8) x1 I else (chk x1 6 ((if (v95 + (40 : Int32)) ≤ (I (R a0 8) x1.toNatClampNeg) then B_Model_beat_126 R a0 x1 (R a0 8) x1 I else B_Model_beat_132 R a0 x1 (R a0 8) x1 (v95 + (40 : Int32)) I)))))) else (chk x3 6 ((if (I (R a0 2) x3.toNatClampNeg) = 0 then (chk x3 6 ((chk x1 6 ((if (I (R a0 4) x3.toNatClampNeg) = (I (R a0 4) x1.toNatClampNeg) then (ob (F_Model_promise R a0 x3 I) (fun I74 => (chk x3 6 (ap (up2 I74 (R a0 6) x3.toNatClampNeg x1) (fun I83 => B_Model_beat_87 R (B_Model_beat_37 R f) a0 x1 (x2 + 1) x3 I83))))) else B_Model_beat_87 R (B_Model_beat_37 R f) a0 x1 x2 x3 I))))) else B_Model_beat_87 R (B_Model_beat_37 R f) a0 x1 x2 x3 I))))
set_option maxHeartbeats 4000000 in
set_option maxRecDepth 100000 in
theorem b_Model_beat_37 {p : Program} {l : Launch} {e : Env} {s : State} {m : MethodId} {args : Array Value} {below : List Frame} {meth : Method} {c : Code} {g : Sg} {R : Nat → Nat → Nat} {J : St} {v : Int32} (cx : Cx p s m args meth c g R R_Model b_Model_beat 6 (some .int)) (f : Nat) : ∀ (a0 : Nat) (x1 : Int32) (x2 : Int32) (x3 : Int32) (I : St) (H : Heap) (locs : List Loc) (ls : Array Slot), okA g 5 0 a0 → B_Model_beat_37 R f a0 x1 x2 x3 I = some (v, J) → wW g R I H → va_S (· ∈ g.L) s.heap H locs → lv_has ls 6 [(0, .ref a0), (1, .int x1), (2, .int x2), (3, .int x3)] → W p l e { frames := 2, cells := 0, slots := 0, locals := 44 } s m args below meth c H locs 0 0 (MQ below (Qi g R v J) args s 0 0 (· ∈ g.L)) (F0 m 37 ls []) := by
  have ⟨hx, hb, hml, hr, hlk, hown, hall, hT, hK⟩ := cx
  induction f with
  | zero => intro a0 x1 x2 x3 I H locs ls o0 h; unfold B_Model_beat_37 at h; cases h
  | succ f ih =>
    intro a0 x1 x2 x3 I H locs ls o0 h hP hS hl
    unfold B_Model_beat_37 at h
    refine lv_iload_n hx hb d_Model_beat_37 rfl (lv_at hl 3 rfl) ?_
    refine lv_iload_n hx hb d_Model_beat_38 rfl (lv_at hl 1 rfl) ?_
    refine lv_iconst (v := 3) hx hb d_Model_beat_39 (by decide) ?_
    refine lv_idiv hx hb d_Model_beat_40 (by decide) ?_
    refine lv_iconst (v := 3) hx hb d_Model_beat_41 (by decide) ?_
    refine lv_imul hx hb d_Model_beat_42 ?_
    refine lv_iconst (v := 3) hx hb d_Model_beat_43 (by decide) ?_
    refine lv_iadd hx hb d_Model_beat_44 ?_
    refine lv_icmp_ge hx hb d_Model_beat_45 rfl (fun hc => ?_) (fun hc => ?_)
    · replace h := i_pos hc h
      refine lv_aload_n hx hb d_Model_beat_93 rfl (lv_at hl 0 rfl) ?_
      refine lv_iload_n hx hb d_Model_beat_94 rfl (lv_at hl 1 rfl) ?_
      obtain ⟨v95, e95, h⟩ := ob_el h
      refine gg_Vi (As := [.int x1]) (rest := []) (ci := 5) (C := R_Model) (T := F_Model) (N := 23) ⟨hx, hb, hml, hown, hall⟩ (c_Model_earliest l hT o0 e95) (cwV 1 hall (gV m_384 m_385 m_386 m_338 m_333) rfl rfl rfl (by decide +kernel) ⟨Nat.le_of_ble_eq_true rfl, Nat.le_of_ble_eq_true rfl⟩) hK hP hS o0.1 (wE_5 o0.2) rfl rfl hl.1 rfl (Nat.le_of_ble_eq_true rfl) d_Model_beat_95 (fun H locs hP hS => ?_)
      refine lv_bipush (v := 40) hx hb d_Model_beat_98 (by decide) ?_
      refine lv_iadd hx hb d_Model_beat_100 ?_
      refine lv_istore_n (lv' := [(3, .int (v95 + (40 : Int32))), (0, .ref a0), (1, .int x1), (2, .int x2)]) hx hb d_Model_beat_101 rfl hl (Nat.le_of_ble_eq_true rfl) rfl (fun ls hl => ?_)
      refine lv_aload_n hx hb d_Model_beat_102 rfl (lv_at hl 1 rfl) ?_
      refine gg_get (C := R_Model) (T := F_Model) (N := 23) (ci := 5) hx hb hall i_Model hown hK hP o0.1 (wE_5 o0.2) rfl 8 (by decide) (hall _ m_347) (fun _ h9 => h9) rfl d_Model_beat_103 ?_
      have o_103 : okA g 6 6 (R a0 8) := ty_Model_8 hT o0
      refine lv_iload_n hx hb d_Model_beat_106 rfl (lv_at hl 2 rfl) ?_
      refine lv_iload_n hx hb d_Model_beat_107 rfl (lv_at hl 3 rfl) ?_
      refine lv_iconst (v := 2) hx hb d_Model_beat_108 (by decide) ?_
      refine lv_icmp_lt hx hb d_Model_beat_109 rfl (fun hc => ?_) (fun hc => ?_)
      · replace h := i_pos hc h
        exact b_Model_beat_126 cx _ _ _ _ _ _ _ _ o0 o_103 h hP hS (lv_sub hl [1, 2] rfl)
      · replace h := i_neg hc h
        refine lv_iload_n hx hb d_Model_beat_112 rfl (lv_at hl 0 rfl) ?_
        refine lv_aload_n hx hb d_Model_beat_113 rfl (lv_at hl 1 rfl) ?_
        refine gg_get (C := R_Model) (T := F_Model) (N := 23) (ci := 5) hx hb hall i_Model hown hK hP o0.1 (wE_5 o0.2) rfl 8 (by decide) (hall _ m_347) (fun _ h9 => h9) rfl d_Model_beat_114 ?_
        have o_114 : okA g 6 6 (R a0 8) := ty_Model_8 hT o0
        refine lv_iload_n hx hb d_Model_beat_117 rfl (lv_at hl 2 rfl) ?_
        obtain ⟨hi118, h⟩ := chk_el h
        refine gg_iald hx hb hK hP o_114 hi118 d_Model_beat_118 ?_
        refine lv_icmp_le hx hb d_Model_beat_119 rfl (fun hc => ?_) (fun hc => ?_)
        · replace h := i_pos hc h
          exact b_Model_beat_126 cx _ _ _ _ _ _ _ _ o0 o_103 h hP hS (lv_sub hl [1, 2] rfl)
        · replace h := i_neg hc h
          refine lv_iload_n hx hb d_Model_beat_122 rfl (lv_at hl 0 rfl) ?_
          refine lv_goto hx hb d_Model_beat_123 rfl ?_
          exact b_Model_beat_132 cx _ _ _ _ _ _ _ _ _ o0 o_103 h hP hS (lv_sub hl [1, 2] rfl)
    · replace h := i_neg hc h
      refine lv_aload_n hx hb d_Model_beat_48 rfl (lv_at hl 0 rfl) ?_
      refine gg_get (C := R_Model) (T := F_Model) (N := 23) (ci := 5) hx hb hall i_Model hown hK hP o0.1 (wE_5 o0.2) rfl 2 (by decide) (hall _ m_340) (fun _ h9 => h9) rfl d_Model_beat_49 ?_
      have o_49 : okA g 7 6 (R a0 2) := ty_Model_2 hT o0
      refine lv_iload_n hx hb d_Model_beat_52 rfl (lv_at hl 3 rfl) ?_
      obtain ⟨hi53, h⟩ := chk_el h
      refine gg_zald hx hb hK hP o_49 hi53 d_Model_beat_53 ?_
      refine lv_if_ne hx hb d_Model_beat_54 rfl (fun hc => ?_) (fun hc => ?_)
      · replace h := i_neg hc h
        exact b_Model_beat_87 cx ih _ _ _ _ _ _ _ _ o0 h hP hS (lv_sub hl [0, 1, 2, 3] rfl)
      · replace h := i_pos hc h
        refine lv_aload_n hx hb d_Model_beat_57 rfl (lv_at hl 0 rfl) ?_
        refine gg_get (C := R_Model) (T := F_Model) (N := 23) (ci := 5) hx hb hall i_Model hown hK hP o0.1 (wE_5 o0.2) rfl 4 (by decide) (hall _ m_354) (fun _ h9 => h9) rfl d_Model_beat_58 ?_
        have o_58 : okA g 6 6 (R a0 4) := ty_Model_4 hT o0
        refine lv_iload_n hx hb d_Model_beat_61 rfl (lv_at hl 3 rfl) ?_
        obtain ⟨hi62, h⟩ := chk_el h
        refine gg_iald hx hb hK hP o_58 hi62 d_Model_beat_62 ?_
        refine lv_aload_n hx hb d_Model_beat_63 rfl (lv_at hl 0 rfl) ?_
        refine gg_get (C := R_Model) (T := F_Model) (N := 23) (ci := 5) hx hb hall i_Model hown hK hP o0.1 (wE_5 o0.2) rfl 4 (by decide) (hall _ m_354) (fun _ h9 => h9) rfl d_Model_beat_64 ?_
        have o_64 : okA g 6 6 (R a0 4) := ty_Model_4 hT o0
        refine lv_iload_n hx hb d_Model_beat_67 rfl (lv_at hl 1 rfl) ?_
        obtain ⟨hi68, h⟩ := chk_el h
        refine gg_iald hx hb hK hP o_64 hi68 d_Model_beat_68 ?_
        refine lv_icmp_ne hx hb d_Model_beat_69 rfl (fun hc => ?_) (fun hc => ?_)
        · replace h := i_neg hc h
          exact b_Model_beat_87 cx ih _ _ _ _ _ _ _ _ o0 h hP hS (lv_sub hl [0, 1, 2, 3] rfl)
        · replace h := i_pos hc h
          refine lv_aload_n hx hb d_Model_beat_72 rfl (lv_at hl 0 rfl) ?_
          refine lv_iload_n hx hb d_Model_beat_73 rfl (lv_at hl 3 rfl) ?_
          obtain ⟨I74, e74, h⟩ := ob_el h
          refine gg_Vv (As := [.int x3]) (rest := []) (ci := 5) (C := R_Model) (T := F_Model) (N := 23) ⟨hx, hb, hml, hown, hall⟩ (c_Model_promise l hT o0 e74) (cwV 1 hall (gV m_405 m_406 m_407 m_338 m_389) rfl rfl rfl (by decide +kernel) ⟨Nat.le_of_ble_eq_true rfl, Nat.le_of_ble_eq_true rfl⟩) hK hP hS o0.1 (wE_5 o0.2) rfl rfl hl.1 rfl (Nat.le_of_ble_eq_true rfl) d_Model_beat_74 (fun H locs hP hS => ?_)
          refine lv_aload_n hx hb d_Model_beat_77 rfl (lv_at hl 0 rfl) ?_
          refine gg_get (C := R_Model) (T := F_Model) (N := 23) (ci := 5) hx hb hall i_Model hown hK hP o0.1 (wE_5 o0.2) rfl 6 (by decide) (hall _ m_383) (fun _ h9 => h9) rfl d_Model_beat_78 ?_
          have o_78 : okA g 6 6 (R a0 6) := ty_Model_6 hT o0
          refine lv_iload_n hx hb d_Model_beat_81 rfl (lv_at hl 3 rfl) ?_
          refine lv_iload_n hx hb d_Model_beat_82 rfl (lv_at hl 1 rfl) ?_
          obtain ⟨hi83, h⟩ := chk_el h
          refine gg_iast hx hb hT.1 hK hP hS o_78 hi83 d_Model_beat_83 (fun I83 H locs e83 hP hS => ?_)
          replace h := ap_el e83 h
          refine lv_iinc (k := 2) (v := (x2 + 1)) (lv' := [(2, .int (x2 + 1)), (0, .ref a0), (1, .int x1), (3, .int x3)]) hx hb d_Model_beat_84 hl rfl (by rw [show Int32.ofInt 1 = (1 : Int32) from by decide]) (Nat.le_of_ble_eq_true rfl) rfl (fun ls hl => ?_)
          exact b_Model_beat_87 cx ih _ _ _ _ _ _ _ _ o0 h hP hS (lv_sub hl [1, 2, 0, 3] rfl)
def F_Model_beat (R : Nat → Nat → Nat) (a0 : Nat) (x1 : Int32) (I : St) : Option (Int32 × St) := (ob (F_Model_below R x1 (6 : Int32) I) (fun v3 => (if v3 = 0 then B_Model_beat_27 R I else (chk x1 6 ((if (I (R a0 2) x1.toNatClampNeg) = 0 then (chk x1 6 ((if (I (R a0 7) x1.toNatClampNeg) = 0 then B_Model_beat_27 R I else B_Model_beat_37 R 100 a0 x1 (0 : Int32) ((x1 / (3 : Int32)) * (3 : Int32)) I))) else B_Model_beat_27 R I))))))
set_option maxHeartbeats 4000000 in
set_option maxRecDepth 100000 in
theorem c_Model_beat (l : Launch) {g : Sg} {R : Nat → Nat → Nat} (hT : Ty g R) {a0 : Nat} (o0 : okA g 5 0 a0) {x1 : Int32} {I : St} {J : St} {v : Int32} (h : F_Model_beat R a0 x1 I = some (v, J)) : Cti l g R y_Model_beat w_Model_beat 2 44 [.ref a0, .int x1] I v J := by
  unfold Cti
  refine Met.ofW (cc := b_Model_beat) (maxL := 6) (ret := (some .int)) (by decide) rfl ?_
  intro p e s m args below meth c s₁ B hml hv
  obtain ⟨rfl, hP, hK⟩ := hv
  have hts := atoms_spec (ws := w_Model_beat) B.pre
  have hall : ∀ w ∈ w_all, w.before _ s = true := fun w hw => hts w (List.mem_cons_of_mem _ hw)
  have hown : s.vm.findClass R_Model = some m.cls := findClass_of_methodNamed B.named
  have hx := B.exec
  have hb := B.bytes
  have hr := B.returns
  have hlk := B.notSynchronized
  have cx : Cx p s m _ meth c g R R_Model b_Model_beat 6 (some .int) := ⟨hx, hb, hml, hr, hlk, hown, hall, hT, hK⟩
  have hl := lv_entry ([.ref a0, .int x1]) (n := 6) (Nat.le_of_ble_eq_true rfl)
  rw [lg_entry_eq]
  generalize (lg_sl ([.ref a0, .int x1]) ++ List.replicate (6 - (lg_sl ([.ref a0, .int x1])).length) Slot.unset).toArray = ls at hl ⊢
  have hl : lv_has ls 6 [(0, .ref a0), (1, .int x1)] := hl
  have hS : va_S (· ∈ g.L) s.heap s.heap [] := va_S.rf
  unfold F_Model_beat at h
  refine lv_iload_n hx hb d_Model_beat_0 rfl (lv_at hl 1 rfl) ?_
  refine lv_bipush (v := 6) hx hb d_Model_beat_1 (by decide) ?_
  obtain ⟨v3, e3, h⟩ := ob_el h
  refine gg_Si (As := [.int x1, .int (6 : Int32)]) (rest := []) ⟨hx, hb, hml, hown, hall⟩ (c_Model_below l hT e3) (cwS 2 hall (gS m_336 m_337 m_338 m_329) rfl rfl rfl (by decide +kernel) ⟨Nat.le_of_ble_eq_true rfl, Nat.le_of_ble_eq_true rfl⟩) hK hP hS rfl hl.1 rfl (Nat.le_of_ble_eq_true rfl) d_Model_beat_3 (fun H locs hP hS => ?_)
  refine lv_if_eq hx hb d_Model_beat_6 rfl (fun hc => ?_) (fun hc => ?_)
  · replace h := i_pos hc h
    exact b_Model_beat_27 cx _ _ _ _ h hP hS (lv_sub hl [] rfl)
  · replace h := i_neg hc h
    refine lv_aload_n hx hb d_Model_beat_9 rfl (lv_at hl 0 rfl) ?_
    refine gg_get (C := R_Model) (T := F_Model) (N := 23) (ci := 5) hx hb hall i_Model hown hK hP o0.1 (wE_5 o0.2) rfl 2 (by decide) (hall _ m_340) (fun _ h9 => h9) rfl d_Model_beat_10 ?_
    have o_10 : okA g 7 6 (R a0 2) := ty_Model_2 hT o0
    refine lv_iload_n hx hb d_Model_beat_13 rfl (lv_at hl 1 rfl) ?_
    obtain ⟨hi14, h⟩ := chk_el h
    refine gg_zald hx hb hK hP o_10 hi14 d_Model_beat_14 ?_
    refine lv_if_ne hx hb d_Model_beat_15 rfl (fun hc => ?_) (fun hc => ?_)
    · replace h := i_neg hc h
      exact b_Model_beat_27 cx _ _ _ _ h hP hS (lv_sub hl [] rfl)
    · replace h := i_pos hc h
      refine lv_aload_n hx hb d_Model_beat_18 rfl (lv_at hl 0 rfl) ?_
      refine gg_get (C := R_Model) (T := F_Model) (N := 23) (ci := 5) hx hb hall i_Model hown hK hP o0.1 (wE_5 o0.2) rfl 7 (by decide) (hall _ m_341) (fun _ h9 => h9) rfl d_Model_beat_19 ?_
      have o_19 : okA g 7 6 (R a0 7) := ty_Model_7 hT o0
      refine lv_iload_n hx hb d_Model_beat_22 rfl (lv_at hl 1 rfl) ?_
      obtain ⟨hi23, h⟩ := chk_el h
      refine gg_zald hx hb hK hP o_19 hi23 d_Model_beat_23 ?_
      refine lv_if_ne hx hb d_Model_beat_24 rfl (fun hc => ?_) (fun hc => ?_)
      · replace h := i_neg hc h
        refine lv_iconst (v := 0) hx hb d_Model_beat_29 (by decide) ?_
        refine lv_istore_n (lv' := [(2, .int (0 : Int32)), (0, .ref a0), (1, .int x1)]) hx hb d_Model_beat_30 rfl hl (Nat.le_of_ble_eq_true rfl) rfl (fun ls hl => ?_)
        refine lv_iload_n hx hb d_Model_beat_31 rfl (lv_at hl 2 rfl) ?_
        refine lv_iconst (v := 3) hx hb d_Model_beat_32 (by decide) ?_
        refine lv_idiv hx hb d_Model_beat_33 (by decide) ?_
        refine lv_iconst (v := 3) hx hb d_Model_beat_34 (by decide) ?_
        refine lv_imul hx hb d_Model_beat_35 ?_
        refine lv_istore_n (lv' := [(3, .int ((x1 / (3 : Int32)) * (3 : Int32))), (2, .int (0 : Int32)), (0, .ref a0), (1, .int x1)]) hx hb d_Model_beat_36 rfl hl (Nat.le_of_ble_eq_true rfl) rfl (fun ls hl => ?_)
        exact b_Model_beat_37 cx 100 _ _ _ _ _ _ _ _ o0 h hP hS (lv_sub hl [2, 3, 1, 0] rfl)
      · replace h := i_pos hc h
        exact b_Model_beat_27 cx _ _ _ _ h hP hS (lv_sub hl [] rfl)
end
