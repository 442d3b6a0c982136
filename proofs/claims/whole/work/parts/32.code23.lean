section
abbrev b_Model_step : ByteArray := prog_7_method_45_code
def y_Model_step : MethodName := ⟨"StampedStoreModel", "step", "(I)I"⟩
def w_Model_step : List Cond := .code y_Model_step b_Model_step 5 (some .int) :: w_all
theorem d_Model_step_0 : decode b_Model_step 0 = .ok (.iload_n 1, 1) := by decide +kernel
theorem d_Model_step_1 : decode b_Model_step 1 = .ok (.aload_n 0, 1) := by decide +kernel
theorem d_Model_step_2 : decode b_Model_step 2 = .ok (.getfield 135, 3) := by decide +kernel
theorem d_Model_step_5 : decode b_Model_step 5 = .ok (.invokestatic 78, 3) := by decide +kernel
theorem d_Model_step_8 : decode b_Model_step 8 = .ok (.ifCond .ne 5, 3) := by decide +kernel
theorem d_Model_step_11 : decode b_Model_step 11 = .ok (.iconst (-1), 1) := by decide +kernel
theorem d_Model_step_12 : decode b_Model_step 12 = .ok (.ireturn, 1) := by decide +kernel
theorem d_Model_step_13 : decode b_Model_step 13 = .ok (.aload_n 0, 1) := by decide +kernel
theorem d_Model_step_14 : decode b_Model_step 14 = .ok (.getfield 53, 3) := by decide +kernel
theorem d_Model_step_17 : decode b_Model_step 17 = .ok (.iload_n 1, 1) := by decide +kernel
theorem d_Model_step_18 : decode b_Model_step 18 = .ok (.iaload, 1) := by decide +kernel
theorem d_Model_step_19 : decode b_Model_step 19 = .ok (.iconst 1, 1) := by decide +kernel
theorem d_Model_step_20 : decode b_Model_step 20 = .ok (.if_icmp .ne 9, 3) := by decide +kernel
theorem d_Model_step_23 : decode b_Model_step 23 = .ok (.aload_n 0, 1) := by decide +kernel
theorem d_Model_step_24 : decode b_Model_step 24 = .ok (.iload_n 1, 1) := by decide +kernel
theorem d_Model_step_25 : decode b_Model_step 25 = .ok (.invokevirtual 171, 3) := by decide +kernel
theorem d_Model_step_28 : decode b_Model_step 28 = .ok (.ireturn, 1) := by decide +kernel
theorem d_Model_step_29 : decode b_Model_step 29 = .ok (.aload_n 0, 1) := by decide +kernel
theorem d_Model_step_30 : decode b_Model_step 30 = .ok (.getfield 53, 3) := by decide +kernel
theorem d_Model_step_33 : decode b_Model_step 33 = .ok (.iload_n 1, 1) := by decide +kernel
theorem d_Model_step_34 : decode b_Model_step 34 = .ok (.iaload, 1) := by decide +kernel
theorem d_Model_step_35 : decode b_Model_step 35 = .ok (.iconst 2, 1) := by decide +kernel
theorem d_Model_step_36 : decode b_Model_step 36 = .ok (.if_icmp .ne 9, 3) := by decide +kernel
theorem d_Model_step_39 : decode b_Model_step 39 = .ok (.aload_n 0, 1) := by decide +kernel
theorem d_Model_step_40 : decode b_Model_step 40 = .ok (.iload_n 1, 1) := by decide +kernel
theorem d_Model_step_41 : decode b_Model_step 41 = .ok (.invokevirtual 174, 3) := by decide +kernel
theorem d_Model_step_44 : decode b_Model_step 44 = .ok (.ireturn, 1) := by decide +kernel
theorem d_Model_step_45 : decode b_Model_step 45 = .ok (.iconst 0, 1) := by decide +kernel
theorem d_Model_step_46 : decode b_Model_step 46 = .ok (.istore_n 2, 1) := by decide +kernel
theorem d_Model_step_47 : decode b_Model_step 47 = .ok (.iload_n 2, 1) := by decide +kernel
theorem d_Model_step_48 : decode b_Model_step 48 = .ok (.iconst 2, 1) := by decide +kernel
theorem d_Model_step_49 : decode b_Model_step 49 = .ok (.if_icmp .ge 105, 3) := by decide +kernel
theorem d_Model_step_52 : decode b_Model_step 52 = .ok (.aload_n 0, 1) := by decide +kernel
theorem d_Model_step_53 : decode b_Model_step 53 = .ok (.getfield 53, 3) := by decide +kernel
theorem d_Model_step_56 : decode b_Model_step 56 = .ok (.iload_n 1, 1) := by decide +kernel
theorem d_Model_step_57 : decode b_Model_step 57 = .ok (.iaload, 1) := by decide +kernel
theorem d_Model_step_58 : decode b_Model_step 58 = .ok (.iconst 3, 1) := by decide +kernel
theorem d_Model_step_59 : decode b_Model_step 59 = .ok (.if_icmp .lt 95, 3) := by decide +kernel
theorem d_Model_step_62 : decode b_Model_step 62 = .ok (.aload_n 0, 1) := by decide +kernel
theorem d_Model_step_63 : decode b_Model_step 63 = .ok (.iload_n 2, 1) := by decide +kernel
theorem d_Model_step_64 : decode b_Model_step 64 = .ok (.invokevirtual 93, 3) := by decide +kernel
theorem d_Model_step_67 : decode b_Model_step 67 = .ok (.istore_n 3, 1) := by decide +kernel
theorem d_Model_step_68 : decode b_Model_step 68 = .ok (.iload_n 3, 1) := by decide +kernel
theorem d_Model_step_69 : decode b_Model_step 69 = .ok (.ifCond .lt 79, 3) := by decide +kernel
theorem d_Model_step_72 : decode b_Model_step 72 = .ok (.aload_n 0, 1) := by decide +kernel
theorem d_Model_step_73 : decode b_Model_step 73 = .ok (.iload_n 3, 1) := by decide +kernel
theorem d_Model_step_74 : decode b_Model_step 74 = .ok (.iload_n 1, 1) := by decide +kernel
theorem d_Model_step_75 : decode b_Model_step 75 = .ok (.iconst 1, 1) := by decide +kernel
theorem d_Model_step_76 : decode b_Model_step 76 = .ok (.invokevirtual 144, 3) := by decide +kernel
theorem d_Model_step_79 : decode b_Model_step 79 = .ok (.ifCond .eq 69, 3) := by decide +kernel
theorem d_Model_step_82 : decode b_Model_step 82 = .ok (.aload_n 0, 1) := by decide +kernel
theorem d_Model_step_83 : decode b_Model_step 83 = .ok (.iload_n 3, 1) := by decide +kernel
theorem d_Model_step_84 : decode b_Model_step 84 = .ok (.iload_n 1, 1) := by decide +kernel
theorem d_Model_step_85 : decode b_Model_step 85 = .ok (.iconst 2, 1) := by decide +kernel
theorem d_Model_step_86 : decode b_Model_step 86 = .ok (.invokevirtual 144, 3) := by decide +kernel
theorem d_Model_step_89 : decode b_Model_step 89 = .ok (.ifCond .ne 59, 3) := by decide +kernel
theorem d_Model_step_92 : decode b_Model_step 92 = .ok (.aload_n 0, 1) := by decide +kernel
theorem d_Model_step_93 : decode b_Model_step 93 = .ok (.iload_n 3, 1) := by decide +kernel
theorem d_Model_step_94 : decode b_Model_step 94 = .ok (.iload_n 1, 1) := by decide +kernel
theorem d_Model_step_95 : decode b_Model_step 95 = .ok (.iconst 3, 1) := by decide +kernel
theorem d_Model_step_96 : decode b_Model_step 96 = .ok (.invokevirtual 144, 3) := by decide +kernel
theorem d_Model_step_99 : decode b_Model_step 99 = .ok (.ifCond .ne 49, 3) := by decide +kernel
theorem d_Model_step_102 : decode b_Model_step 102 = .ok (.aload_n 0, 1) := by decide +kernel
theorem d_Model_step_103 : decode b_Model_step 103 = .ok (.iload_n 3, 1) := by decide +kernel
theorem d_Model_step_104 : decode b_Model_step 104 = .ok (.invokevirtual 118, 3) := by decide +kernel
theorem d_Model_step_107 : decode b_Model_step 107 = .ok (.istore 4, 2) := by decide +kernel
theorem d_Model_step_109 : decode b_Model_step 109 = .ok (.aload_n 0, 1) := by decide +kernel
theorem d_Model_step_110 : decode b_Model_step 110 = .ok (.iload_n 3, 1) := by decide +kernel
theorem d_Model_step_111 : decode b_Model_step 111 = .ok (.iload 4, 2) := by decide +kernel
theorem d_Model_step_113 : decode b_Model_step 113 = .ok (.invokevirtual 121, 3) := by decide +kernel
theorem d_Model_step_116 : decode b_Model_step 116 = .ok (.ifCond .ne 32, 3) := by decide +kernel
theorem d_Model_step_119 : decode b_Model_step 119 = .ok (.aload_n 0, 1) := by decide +kernel
theorem d_Model_step_120 : decode b_Model_step 120 = .ok (.iload_n 3, 1) := by decide +kernel
theorem d_Model_step_121 : decode b_Model_step 121 = .ok (.iconst 3, 1) := by decide +kernel
theorem d_Model_step_122 : decode b_Model_step 122 = .ok (.iload_n 1, 1) := by decide +kernel
theorem d_Model_step_123 : decode b_Model_step 123 = .ok (.aload_n 0, 1) := by decide +kernel
theorem d_Model_step_124 : decode b_Model_step 124 = .ok (.getfield 53, 3) := by decide +kernel
theorem d_Model_step_127 : decode b_Model_step 127 = .ok (.iload_n 1, 1) := by decide +kernel
theorem d_Model_step_128 : decode b_Model_step 128 = .ok (.iaload, 1) := by decide +kernel
theorem d_Model_step_129 : decode b_Model_step 129 = .ok (.iconst 3, 1) := by decide +kernel
theorem d_Model_step_130 : decode b_Model_step 130 = .ok (.if_icmp .ne 12, 3) := by decide +kernel
theorem d_Model_step_133 : decode b_Model_step 133 = .ok (.aload_n 0, 1) := by decide +kernel
theorem d_Model_step_134 : decode b_Model_step 134 = .ok (.getfield 68, 3) := by decide +kernel
theorem d_Model_step_137 : decode b_Model_step 137 = .ok (.iload_n 1, 1) := by decide +kernel
theorem d_Model_step_138 : decode b_Model_step 138 = .ok (.iaload, 1) := by decide +kernel
theorem d_Model_step_139 : decode b_Model_step 139 = .ok (.goto 4, 3) := by decide +kernel
theorem d_Model_step_142 : decode b_Model_step 142 = .ok (.iconst (-1), 1) := by decide +kernel
theorem d_Model_step_143 : decode b_Model_step 143 = .ok (.iload 4, 2) := by decide +kernel
theorem d_Model_step_145 : decode b_Model_step 145 = .ok (.invokevirtual 125, 3) := by decide +kernel
theorem d_Model_step_148 : decode b_Model_step 148 = .ok (.iinc 2 1, 3) := by decide +kernel
theorem d_Model_step_151 : decode b_Model_step 151 = .ok (.goto (-104), 3) := by decide +kernel
theorem d_Model_step_154 : decode b_Model_step 154 = .ok (.aload_n 0, 1) := by decide +kernel
theorem d_Model_step_155 : decode b_Model_step 155 = .ok (.getfield 53, 3) := by decide +kernel
theorem d_Model_step_158 : decode b_Model_step 158 = .ok (.iload_n 1, 1) := by decide +kernel
theorem d_Model_step_159 : decode b_Model_step 159 = .ok (.iaload, 1) := by decide +kernel
theorem d_Model_step_160 : decode b_Model_step 160 = .ok (.ireturn, 1) := by decide +kernel
def B_Model_step_154 (R : Nat → Nat → Nat) (a0 : Nat) (x1 : Int32) (I : St) : Option (Int32 × St) := (chk x1 16 (some ((I (R a0 17) x1.toNatClampNeg), I)))
set_option maxHeartbeats 4000000 in
set_option maxRecDepth 100000 in
theorem b_Model_step_154 {p : Program} {l : Launch} {e : Env} {s : State} {m : MethodId} {args : Array Value} {below : List Frame} {meth : Method} {c : Code} {g : Sg} {R : Nat → Nat → Nat} {J : St} {v : Int32} (cx : Cx p s m args meth c g R R_Model b_Model_step 5 (some .int)) : ∀ (a0 : Nat) (x1 : Int32) (I : St) (H : Heap) (locs : List Loc) (ls : Array Slot), okA g 5 0 a0 → B_Model_step_154 R a0 x1 I = some (v, J) → wW g R I H → va_S (· ∈ g.L) s.heap H locs → lv_has ls 5 [(0, .ref a0), (1, .int x1)] → W p l e { frames := 5, cells := 0, slots := 0, locals := 113 } s m args below meth c H locs 0 0 (MQ below (Qi g R v J) args s 0 0 (· ∈ g.L)) (F0 m 154 ls []) := by
  have ⟨hx, hb, hml, hr, hlk, hown, hall, hT, hK⟩ := cx
  intro a0 x1 I H locs ls o0 h hP hS hl
  unfold B_Model_step_154 at h
  refine lv_aload_n hx hb d_Model_step_154 rfl (lv_at hl 0 rfl) ?_
  refine gg_get (C := R_Model) (T := F_Model) (N := 23) (ci := 5) hx hb hall i_Model hown hK hP o0.1 (wE_5 o0.2) rfl 17 (by decide) (hall _ m_449) (fun _ h9 => h9) rfl d_Model_step_155 ?_
  have o_155 : okA g 6 16 (R a0 17) := ty_Model_17 hT o0
  refine lv_iload_n hx hb d_Model_step_158 rfl (lv_at hl 1 rfl) ?_
  obtain ⟨hi159, h⟩ := chk_el h
  refine gg_iald hx hb hK hP o_155 hi159 d_Model_step_159 ?_
  obtain ⟨rfl, rfl⟩ := rt_el h
  exact gg_iret hx hb hr hlk hK hP hS d_Model_step_160
def B_Model_step_148 (R : Nat → Nat → Nat) (k47 : Nat → Int32 → Int32 → St → Option (Int32 × St)) (a0 : Nat) (x1 : Int32) (x2 : Int32) (I : St) : Option (Int32 × St) := k47 a0 x1 (x2 + 1) I
set_option maxHeartbeats 4000000 in
set_option maxRecDepth 100000 in
theorem b_Model_step_148 {p : Program} {l : Launch} {e : Env} {s : State} {m : MethodId} {args : Array Value} {below : List Frame} {meth : Method} {c : Code} {g : Sg} {R : Nat → Nat → Nat} {J : St} {v : Int32} (cx : Cx p s m args meth c g R R_Model b_Model_step 5 (some .int)) {k47 : Nat → Int32 → Int32 → St → Option (Int32 × St)} (hk47 : ∀ (a0 : Nat) (x1 : Int32) (x2 : Int32) (I : St) (H : Heap) (locs : List Loc) (ls : Array Slot), okA g 5 0 a0 → k47 a0 x1 x2 I = some (v, J) → wW g R I H → va_S (· ∈ g.L) s.heap H locs → lv_has ls 5 [(0, .ref a0), (1, .int x1), (2, .int x2)] → W p l e { frames := 5, cells := 0, slots := 0, locals := 113 } s m args below meth c H locs 0 0 (MQ below (Qi g R v J) args s 0 0 (· ∈ g.L)) (F0 m 47 ls [])) : ∀ (a0 : Nat) (x1 : Int32) (x2 : Int32) (I : St) (H : Heap) (locs : List Loc) (ls : Array Slot), okA g 5 0 a0 → B_Model_step_148 R k47 a0 x1 x2 I = some (v, J) → wW g R I H → va_S (· ∈ g.L) s.heap H locs → lv_has ls 5 [(0, .ref a0), (1, .int x1), (2, .int x2)] → W p l e { frames := 5, cells := 0, slots := 0, locals := 113 } s m args below meth c H locs 0 0 (MQ below (Qi g R v J) args s 0 0 (· ∈ g.L)) (F0 m 148 ls []) := by
  have ⟨hx, hb, hml, hr, hlk, hown, hall, hT, hK⟩ := cx
  intro a0 x1 x2 I H locs ls o0 h hP hS hl
  unfold B_Model_step_148 at h
  refine lv_iinc (k := 2) (v := (x2 + 1)) (lv' := [(2, .int (x2 + 1)), (0, .ref a0), (1, .int x1)]) hx hb d_Model_step_148 hl rfl (by rw [show Int32.ofInt 1 = (1 : Int32) from by decide]) (Nat.le_of_ble_eq_true rfl) rfl (fun ls hl => ?_)
  refine lv_goto hx hb d_Model_step_151 rfl ?_
  exact hk47 _ _ _ _ _ _ _ o0 h hP hS (lv_sub hl [1, 2, 0] rfl)
def B_Model_step_143 (R : Nat → Nat → Nat) (k47 : Nat → Int32 → Int32 → St → Option (Int32 × St)) (a0 : Nat) (x1 : Int32) (x2 : Int32) (x4 : Int32) (u0 : Nat) (t1 : Int32) (t2 : Int32) (t3 : Int32) (t4 : Int32) (I : St) : Option (Int32 × St) := (ob (F_Model_put R u0 t1 t2 t3 t4 x4 I) (fun I145 => B_Model_step_148 R k47 a0 x1 x2 I145))
set_option maxHeartbeats 4000000 in
set_option maxRecDepth 100000 in
theorem b_Model_step_143 {p : Program} {l : Launch} {e : Env} {s : State} {m : MethodId} {args : Array Value} {below : List Frame} {meth : Method} {c : Code} {g : Sg} {R : Nat → Nat → Nat} {J : St} {v : Int32} (cx : Cx p s m args meth c g R R_Model b_Model_step 5 (some .int)) {k47 : Nat → Int32 → Int32 → St → Option (Int32 × St)} (hk47 : ∀ (a0 : Nat) (x1 : Int32) (x2 : Int32) (I : St) (H : Heap) (locs : List Loc) (ls : Array Slot), okA g 5 0 a0 → k47 a0 x1 x2 I = some (v, J) → wW g R I H → va_S (· ∈ g.L) s.heap H locs → lv_has ls 5 [(0, .ref a0), (1, .int x1), (2, .int x2)] → W p l e { frames := 5, cells := 0, slots := 0, locals := 113 } s m args below meth c H locs 0 0 (MQ below (Qi g R v J) args s 0 0 (· ∈ g.L)) (F0 m 47 ls [])) : ∀ (a0 : Nat) (x1 : Int32) (x2 : Int32) (x4 : Int32) (u0 : Nat) (t1 : Int32) (t2 : Int32) (t3 : Int32) (t4 : Int32) (I : St) (H : Heap) (locs : List Loc) (ls : Array Slot), okA g 5 0 a0 → okA g 5 0 u0 → B_Model_step_143 R k47 a0 x1 x2 x4 u0 t1 t2 t3 t4 I = some (v, J) → wW g R I H → va_S (· ∈ g.L) s.heap H locs → lv_has ls 5 [(0, .ref a0), (1, .int x1), (2, .int x2), (4, .int x4)] → W p l e { frames := 5, cells := 0, slots := 0, locals := 113 } s m args below meth c H locs 0 0 (MQ below (Qi g R v J) args s 0 0 (· ∈ g.L)) (F0 m 143 ls [.int t4, .int t3, .int t2, .int t1, .ref u0]) := by
  have ⟨hx, hb, hml, hr, hlk, hown, hall, hT, hK⟩ := cx
  intro a0 x1 x2 x4 u0 t1 t2 t3 t4 I H locs ls o0 q0 h hP hS hl
  unfold B_Model_step_143 at h
  refine lv_iload hx hb d_Model_step_143 (lv_at hl 3 rfl) ?_
  obtain ⟨I145, e145, h⟩ := ob_el h
  refine gg_Vv (As := [.int t1, .int t2, .int t3, .int t4, .int x4]) (rest := []) (ci := 5) (C := R_Model) (T := F_Model) (N := 23) ⟨hx, hb, hml, hown, hall⟩ (c_Model_put l hT q0 e145) (cwV 5 hall (gV m_396 m_397 m_398 m_338 m_371) rfl rfl rfl (by decide +kernel) ⟨Nat.le_of_ble_eq_true rfl, Nat.le_of_ble_eq_true rfl⟩) hK hP hS q0.1 (wE_5 q0.2) rfl rfl hl.1 rfl (Nat.le_of_ble_eq_true rfl) d_Model_step_145 (fun H locs hP hS => ?_)
  exact b_Model_step_148 cx hk47 _ _ _ _ _ _ _ o0 h hP hS (lv_sub hl [0, 1, 2] rfl)
def B_Model_step_47 (R : Nat → Nat → Nat) : Nat → Nat → Int32 → Int32 → St → Option (Int32 × St)
  | 0, _, _, _, _ => none
  | f + 1, a0, x1, x2, I => (if (2 : Int32) ≤ x2 then B_Model_step_154 R a0 x1 I else (chk x1 16 ((if (I (R a0 17) x1.toNatClampNeg) < (3 : Int32) then B_Model_step_154 R a0 x1 I else (ob (F_Model_ready R a0 x2 I) (fun v64 => (if v64 < 0 then B_Model_step_148 R (B_Model_step_47 R f) a0 x1 x2 I else (ob (F_Model_has R a0 v64 x1 (1 : Int32) I) (fun v76 => (if v76 = 0 then B_Model_step_148 R (B_Model_step_47 R f) a0 x1 x2 I else (ob (F_Model_has R a0 v64 x1 (2 : Int32) I) (fun v86 => (if v86 = 0 then (ob (F_Model_has R a0 v64 x1 (3 : Int32) I) (fun v96 => (if v96 = 0 then (ob (F_Model_next R a0 v64 I) (fun v104 => (ob (F_Model_bars R a0 v64 v104 I) (fun v113 => (if v113 = 0 then (chk x1 16 ((if (I (R a0 17) x1.toNatClampNeg) = (3 : Int32) then (chk x1 16 (B_Model_step_143 R (B_Model_step_47 R f) a0 x1 x2 v104 a0 v64 (3 : Int32) x1 (I (R a0 22) x1.toNatClampNeg) I)) else B_Model_step_143 R (B_Model_step_47 R f) a0 x1 x2 v104 a0 v64 (3 : Int32) x1 (-1 : Int32) I))) else B_Model_step_148 R (B_Model_step_47 R f) a0 x1 x2 I))))) else B_Model_step_148 R (B_Model_step_47 R f) a0 x1 x2 I))) else B_Model_step_148 R (B_Model_step_47 R f) a0 x1 x2 I)))))))))))))
set_option maxHeartbeats 4000000 in
set_option maxRecDepth 100000 in
theorem b_Model_step_47 {p : Program} {l : Launch} {e : Env} {s : State} {m : MethodId} {args : Array Value} {below : List Frame} {meth : Method} {c : Code} {g : Sg} {R : Nat → Nat → Nat} {J : St} {v : Int32} (cx : Cx p s m args meth c g R R_Model b_Model_step 5 (some .int)) (f : Nat) : ∀ (a0 : Nat) (x1 : Int32) (x2 : Int32) (I : St) (H : Heap) (locs : List Loc) (ls : Array Slot), okA g 5 0 a0 → B_Model_step_47 R f a0 x1 x2 I = some (v, J) → wW g R I H → va_S (· ∈ g.L) s.heap H locs → lv_has ls 5 [(0, .ref a0), (1, .int x1), (2, .int x2)] → W p l e { frames := 5, cells := 0, slots := 0, locals := 113 } s m args below meth c H locs 0 0 (MQ below (Qi g R v J) args s 0 0 (· ∈ g.L)) (F0 m 47 ls []) := by
  have ⟨hx, hb, hml, hr, hlk, hown, hall, hT, hK⟩ := cx
  induction f with
  | zero => intro a0 x1 x2 I H locs ls o0 h; unfold B_Model_step_47 at h; cases h
  | succ f ih =>
    intro a0 x1 x2 I H locs ls o0 h hP hS hl
    unfold B_Model_step_47 at h
    refine lv_iload_n hx hb d_Model_step_47 rfl (lv_at hl 2 rfl) ?_
    refine lv_iconst (v := 2) hx hb d_Model_step_48 (by decide) ?_
    refine lv_icmp_ge hx hb d_Model_step_49 rfl (fun hc => ?_) (fun hc => ?_)
    · replace h := i_pos hc h
      exact b_Model_step_154 cx _ _ _ _ _ _ o0 h hP hS (lv_sub hl [0, 1] rfl)
    · replace h := i_neg hc h
      refine lv_aload_n hx hb d_Model_step_52 rfl (lv_at hl 0 rfl) ?_
      refine gg_get (C := R_Model) (T := F_Model) (N := 23) (ci := 5) hx hb hall i_Model hown hK hP o0.1 (wE_5 o0.2) rfl 17 (by decide) (hall _ m_449) (fun _ h9 => h9) rfl d_Model_step_53 ?_
      have o_53 : okA g 6 16 (R a0 17) := ty_Model_17 hT o0
      refine lv_iload_n hx hb d_Model_step_56 rfl (lv_at hl 1 rfl) ?_
      obtain ⟨hi57, h⟩ := chk_el h
      refine gg_iald hx hb hK hP o_53 hi57 d_Model_step_57 ?_
      refine lv_iconst (v := 3) hx hb d_Model_step_58 (by decide) ?_
      refine lv_icmp_lt hx hb d_Model_step_59 rfl (fun hc => ?_) (fun hc => ?_)
      · replace h := i_pos hc h
        exact b_Model_step_154 cx _ _ _ _ _ _ o0 h hP hS (lv_sub hl [0, 1] rfl)
      · replace h := i_neg hc h
        refine lv_aload_n hx hb d_Model_step_62 rfl (lv_at hl 0 rfl) ?_
        refine lv_iload_n hx hb d_Model_step_63 rfl (lv_at hl 2 rfl) ?_
        obtain ⟨v64, e64, h⟩ := ob_el h
        refine gg_Vi (As := [.int x2]) (rest := []) (ci := 5) (C := R_Model) (T := F_Model) (N := 23) ⟨hx, hb, hml, hown, hall⟩ (c_Model_ready l hT o0 e64) (cwV 1 hall (gV m_360 m_361 m_362 m_338 m_359) rfl rfl rfl (by decide +kernel) ⟨Nat.le_of_ble_eq_true rfl, Nat.le_of_ble_eq_true rfl⟩) hK hP hS o0.1 (wE_5 o0.2) rfl rfl hl.1 rfl (Nat.le_of_ble_eq_true rfl) d_Model_step_64 (fun H locs hP hS => ?_)
        refine lv_istore_n (lv' := [(3, .int v64), (0, .ref a0), (1, .int x1), (2, .int x2)]) hx hb d_Model_step_67 rfl hl (Nat.le_of_ble_eq_true rfl) rfl (fun ls hl => ?_)
        refine lv_iload_n hx hb d_Model_step_68 rfl (lv_at hl 0 rfl) ?_
        refine lv_if_lt hx hb d_Model_step_69 rfl (fun hc => ?_) (fun hc => ?_)
        · replace h := i_pos hc h
          exact b_Model_step_148 cx ih _ _ _ _ _ _ _ o0 h hP hS (lv_sub hl [1, 2, 3] rfl)
        · replace h := i_neg hc h
          refine lv_aload_n hx hb d_Model_step_72 rfl (lv_at hl 1 rfl) ?_
          refine lv_iload_n hx hb d_Model_step_73 rfl (lv_at hl 0 rfl) ?_
          refine lv_iload_n hx hb d_Model_step_74 rfl (lv_at hl 2 rfl) ?_
          refine lv_iconst (v := 1) hx hb d_Model_step_75 (by decide) ?_
          obtain ⟨v76, e76, h⟩ := ob_el h
          refine gg_Vi (As := [.int v64, .int x1, .int (1 : Int32)]) (rest := []) (ci := 5) (C := R_Model) (T := F_Model) (N := 23) ⟨hx, hb, hml, hown, hall⟩ (c_Model_has l hT o0 e76) (cwV 3 hall (gV m_433 m_434 m_435 m_338 m_376) rfl rfl rfl (by decide +kernel) ⟨Nat.le_of_ble_eq_true rfl, Nat.le_of_ble_eq_true rfl⟩) hK hP hS o0.1 (wE_5 o0.2) rfl rfl hl.1 rfl (Nat.le_of_ble_eq_true rfl) d_Model_step_76 (fun H locs hP hS => ?_)
          refine lv_if_eq hx hb d_Model_step_79 rfl (fun hc => ?_) (fun hc => ?_)
          · replace h := i_pos hc h
            exact b_Model_step_148 cx ih _ _ _ _ _ _ _ o0 h hP hS (lv_sub hl [1, 2, 3] rfl)
          · replace h := i_neg hc h
            refine lv_aload_n hx hb d_Model_step_82 rfl (lv_at hl 1 rfl) ?_
            refine lv_iload_n hx hb d_Model_step_83 rfl (lv_at hl 0 rfl) ?_
            refine lv_iload_n hx hb d_Model_step_84 rfl (lv_at hl 2 rfl) ?_
            refine lv_iconst (v := 2) hx hb d_Model_step_85 (by decide) ?_
            obtain ⟨v86, e86, h⟩ := ob_el h
            refine gg_Vi (As := [.int v64, .int x1, .int (2 : Int32)]) (rest := []) (ci := 5) (C := R_Model) (T := F_Model) (N := 23) ⟨hx, hb, hml, hown, hall⟩ (c_Model_has l hT o0 e86) (cwV 3 hall (gV m_433 m_434 m_435 m_338 m_376) rfl rfl rfl (by decide +kernel) ⟨Nat.le_of_ble_eq_true rfl, Nat.le_of_ble_eq_true rfl⟩) hK hP hS o0.1 (wE_5 o0.2) rfl rfl hl.1 rfl (Nat.le_of_ble_eq_true rfl) d_Model_step_86 (fun H locs hP hS => ?_)
            refine lv_if_ne hx hb d_Model_step_89 rfl (fun hc => ?_) (fun hc => ?_)
            · replace h := i_neg hc h
              exact b_Model_step_148 cx ih _ _ _ _ _ _ _ o0 h hP hS (lv_sub hl [1, 2, 3] rfl)
            · replace h := i_pos hc h
              refine lv_aload_n hx hb d_Model_step_92 rfl (lv_at hl 1 rfl) ?_
              refine lv_iload_n hx hb d_Model_step_93 rfl (lv_at hl 0 rfl) ?_
              refine lv_iload_n hx hb d_Model_step_94 rfl (lv_at hl 2 rfl) ?_
              refine lv_iconst (v := 3) hx hb d_Model_step_95 (by decide) ?_
              obtain ⟨v96, e96, h⟩ := ob_el h
              refine gg_Vi (As := [.int v64, .int x1, .int (3 : Int32)]) (rest := []) (ci := 5) (C := R_Model) (T := F_Model) (N := 23) ⟨hx, hb, hml, hown, hall⟩ (c_Model_has l hT o0 e96) (cwV 3 hall (gV m_433 m_434 m_435 m_338 m_376) rfl rfl rfl (by decide +kernel) ⟨Nat.le_of_ble_eq_true rfl, Nat.le_of_ble_eq_true rfl⟩) hK hP hS o0.1 (wE_5 o0.2) rfl rfl hl.1 rfl (Nat.le_of_ble_eq_true rfl) d_Model_step_96 (fun H locs hP hS => ?_)
              refine lv_if_ne hx hb d_Model_step_99 rfl (fun hc => ?_) (fun hc => ?_)
              · replace h := i_neg hc h
                exact b_Model_step_148 cx ih _ _ _ _ _ _ _ o0 h hP hS (lv_sub hl [1, 2, 3] rfl)
              · replace h := i_pos hc h
                refine lv_aload_n hx hb d_Model_step_102 rfl (lv_at hl 1 rfl) ?_
                refine lv_iload_n hx hb d_Model_step_103 rfl (lv_at hl 0 rfl) ?_
                obtain ⟨v104, e104, h⟩ := ob_el h
                refine gg_Vi (As := [.int v64]) (rest := []) (ci := 5) (C := R_Model) (T := F_Model) (N := 23) ⟨hx, hb, hml, hown, hall⟩ (c_Model_next l hT o0 e104) (cwV 1 hall (gV m_390 m_391 m_392 m_338 m_368) rfl rfl rfl (by decide +kernel) ⟨Nat.le_of_ble_eq_true rfl, Nat.le_of_ble_eq_true rfl⟩) hK hP hS o0.1 (wE_5 o0.2) rfl rfl hl.1 rfl (Nat.le_of_ble_eq_true rfl) d_Model_step_104 (fun H locs hP hS => ?_)
                refine lv_istore (lv' := [(4, .int v104), (3, .int v64), (0, .ref a0), (1, .int x1), (2, .int x2)]) hx hb d_Model_step_107 hl (Nat.le_of_ble_eq_true rfl) rfl (fun ls hl => ?_)
                refine lv_aload_n hx hb d_Model_step_109 rfl (lv_at hl 2 rfl) ?_
                refine lv_iload_n hx hb d_Model_step_110 rfl (lv_at hl 1 rfl) ?_
                refine lv_iload hx hb d_Model_step_111 (lv_at hl 0 rfl) ?_
                obtain ⟨v113, e113, h⟩ := ob_el h
                refine gg_Vi (As := [.int v64, .int v104]) (rest := []) (ci := 5) (C := R_Model) (T := F_Model) (N := 23) ⟨hx, hb, hml, hown, hall⟩ (c_Model_bars l hT o0 e113) (cwV 2 hall (gV m_393 m_394 m_395 m_338 m_369) rfl rfl rfl (by decide +kernel) ⟨Nat.le_of_ble_eq_true rfl, Nat.le_of_ble_eq_true rfl⟩) hK hP hS o0.1 (wE_5 o0.2) rfl rfl hl.1 rfl (Nat.le_of_ble_eq_true rfl) d_Model_step_113 (fun H locs hP hS => ?_)
                refine lv_if_ne hx hb d_Model_step_116 rfl (fun hc => ?_) (fun hc => ?_)
                · replace h := i_neg hc h
                  exact b_Model_step_148 cx ih _ _ _ _ _ _ _ o0 h hP hS (lv_sub hl [2, 3, 4] rfl)
                · replace h := i_pos hc h
                  refine lv_aload_n hx hb d_Model_step_119 rfl (lv_at hl 2 rfl) ?_
                  refine lv_iload_n hx hb d_Model_step_120 rfl (lv_at hl 1 rfl) ?_
                  refine lv_iconst (v := 3) hx hb d_Model_step_121 (by decide) ?_
                  refine lv_iload_n hx hb d_Model_step_122 rfl (lv_at hl 3 rfl) ?_
                  refine lv_aload_n hx hb d_Model_step_123 rfl (lv_at hl 2 rfl) ?_
                  refine gg_get (C := R_Model) (T := F_Model) (N := 23) (ci := 5) hx hb hall i_Model hown hK hP o0.1 (wE_5 o0.2) rfl 17 (by decide) (hall _ m_449) (fun _ h9 => h9) rfl d_Model_step_124 ?_
                  have o_124 : okA g 6 16 (R a0 17) := ty_Model_17 hT o0
                  refine lv_iload_n hx hb d_Model_step_127 rfl (lv_at hl 3 rfl) ?_
                  obtain ⟨hi128, h⟩ := chk_el h
                  refine gg_iald hx hb hK hP o_124 hi128 d_Model_step_128 ?_
                  refine lv_iconst (v := 3) hx hb d_Model_step_129 (by decide) ?_
                  refine lv_icmp_ne hx hb d_Model_step_130 rfl (fun hc => ?_) (fun hc => ?_)
                  · replace h := i_neg hc h
                    refine lv_iconst (v := (-1)) hx hb d_Model_step_142 (by decide) ?_
                    exact b_Model_step_143 cx ih _ _ _ _ _ _ _ _ _ _ _ _ _ o0 o0 h hP hS (lv_sub hl [2, 3, 4, 0] rfl)
                  · replace h := i_pos hc h
                    refine lv_aload_n hx hb d_Model_step_133 rfl (lv_at hl 2 rfl) ?_
                    refine gg_get (C := R_Model) (T := F_Model) (N := 23) (ci := 5) hx hb hall i_Model hown hK hP o0.1 (wE_5 o0.2) rfl 22 (by decide) (hall _ m_473) (fun _ h9 => h9) rfl d_Model_step_134 ?_
                    have o_134 : okA g 6 16 (R a0 22) := ty_Model_22 hT o0
                    refine lv_iload_n hx hb d_Model_step_137 rfl (lv_at hl 3 rfl) ?_
                    obtain ⟨hi138, h⟩ := chk_el h
                    refine gg_iald hx hb hK hP o_134 hi138 d_Model_step_138 ?_
                    refine lv_goto hx hb d_Model_step_139 rfl ?_
                    exact b_Model_step_143 cx ih _ _ _ _ _ _ _ _ _ _ _ _ _ o0 o0 h hP hS (lv_sub hl [2, 3, 4, 0] rfl)
def F_Model_step (R : Nat → Nat → Nat) (a0 : Nat) (x1 : Int32) (I : St) : Option (Int32 × St) := (ob (F_Model_below R x1 (I a0 16) I) (fun v5 => (if v5 = 0 then some ((-1 : Int32), I) else (chk x1 16 ((if (I (R a0 17) x1.toNatClampNeg) = (1 : Int32) then (ob2 (F_Model_prepared R a0 x1 I) (fun v25 I25 => some (v25, I25))) else (chk x1 16 ((if (I (R a0 17) x1.toNatClampNeg) = (2 : Int32) then (ob2 (F_Model_committing R a0 x1 I) (fun v41 I41 => some (v41, I41))) else B_Model_step_47 R 100 a0 x1 (0 : Int32) I)))))))))
set_option maxHeartbeats 4000000 in
set_option maxRecDepth 100000 in
theorem c_Model_step (l : Launch) {g : Sg} {R : Nat → Nat → Nat} (hT : Ty g R) {a0 : Nat} (o0 : okA g 5 0 a0) {x1 : Int32} {I : St} {J : St} {v : Int32} (h : F_Model_step R a0 x1 I = some (v, J)) : Cti l g R y_Model_step w_Model_step 5 113 [.ref a0, .int x1] I v J := by
  unfold Cti
  refine Met.ofW (cc := b_Model_step) (maxL := 5) (ret := (some .int)) (by decide) rfl ?_
  intro p e s m args below meth c s₁ B hml hv
  obtain ⟨rfl, hP, hK⟩ := hv
  have hts := atoms_spec (ws := w_Model_step) B.pre
  have hall : ∀ w ∈ w_all, w.before _ s = true := fun w hw => hts w (List.mem_cons_of_mem _ hw)
  have hown : s.vm.findClass R_Model = some m.cls := findClass_of_methodNamed B.named
  have hx := B.exec
  have hb := B.bytes
  have hr := B.returns
  have hlk := B.notSynchronized
  have cx : Cx p s m _ meth c g R R_Model b_Model_step 5 (some .int) := ⟨hx, hb, hml, hr, hlk, hown, hall, hT, hK⟩
  have hl := lv_entry ([.ref a0, .int x1]) (n := 5) (Nat.le_of_ble_eq_true rfl)
  rw [lg_entry_eq]
  generalize (lg_sl ([.ref a0, .int x1]) ++ List.replicate (5 - (lg_sl ([.ref a0, .int x1])).length) Slot.unset).toArray = ls at hl ⊢
  have hl : lv_has ls 5 [(0, .ref a0), (1, .int x1)] := hl
  have hS : va_S (· ∈ g.L) s.heap s.heap [] := va_S.rf
  unfold F_Model_step at h
  refine lv_iload_n hx hb d_Model_step_0 rfl (lv_at hl 1 rfl) ?_
  refine lv_aload_n hx hb d_Model_step_1 rfl (lv_at hl 0 rfl) ?_
  refine gg_get (C := R_Model) (T := F_Model) (N := 23) (ci := 5) hx hb hall i_Model hown hK hP o0.1 (wE_5 o0.2) rfl 16 (by decide) (hall _ m_419) (fun _ h9 => h9) rfl d_Model_step_2 ?_
  obtain ⟨v5, e5, h⟩ := ob_el h
  refine gg_Si (As := [.int x1, .int (I a0 16)]) (rest := []) ⟨hx, hb, hml, hown, hall⟩ (c_Model_below l hT e5) (cwS 2 hall (gS m_336 m_337 m_338 m_329) rfl rfl rfl (by decide +kernel) ⟨Nat.le_of_ble_eq_true rfl, Nat.le_of_ble_eq_true rfl⟩) hK hP hS rfl hl.1 rfl (Nat.le_of_ble_eq_true rfl) d_Model_step_5 (fun H locs hP hS => ?_)
  refine lv_if_ne hx hb d_Model_step_8 rfl (fun hc => ?_) (fun hc => ?_)
  · replace h := i_neg hc h
    refine lv_aload_n hx hb d_Model_step_13 rfl (lv_at hl 0 rfl) ?_
    refine gg_get (C := R_Model) (T := F_Model) (N := 23) (ci := 5) hx hb hall i_Model hown hK hP o0.1 (wE_5 o0.2) rfl 17 (by decide) (hall _ m_449) (fun _ h9 => h9) rfl d_Model_step_14 ?_
    have o_14 : okA g 6 16 (R a0 17) := ty_Model_17 hT o0
    refine lv_iload_n hx hb d_Model_step_17 rfl (lv_at hl 1 rfl) ?_
    obtain ⟨hi18, h⟩ := chk_el h
    refine gg_iald hx hb hK hP o_14 hi18 d_Model_step_18 ?_
    refine lv_iconst (v := 1) hx hb d_Model_step_19 (by decide) ?_
    refine lv_icmp_ne hx hb d_Model_step_20 rfl (fun hc => ?_) (fun hc => ?_)
    · replace h := i_neg hc h
      refine lv_aload_n hx hb d_Model_step_29 rfl (lv_at hl 0 rfl) ?_
      refine gg_get (C := R_Model) (T := F_Model) (N := 23) (ci := 5) hx hb hall i_Model hown hK hP o0.1 (wE_5 o0.2) rfl 17 (by decide) (hall _ m_449) (fun _ h9 => h9) rfl d_Model_step_30 ?_
      have o_30 : okA g 6 16 (R a0 17) := ty_Model_17 hT o0
      refine lv_iload_n hx hb d_Model_step_33 rfl (lv_at hl 1 rfl) ?_
      obtain ⟨hi34, h⟩ := chk_el h
      refine gg_iald hx hb hK hP o_30 hi34 d_Model_step_34 ?_
      refine lv_iconst (v := 2) hx hb d_Model_step_35 (by decide) ?_
      refine lv_icmp_ne hx hb d_Model_step_36 rfl (fun hc => ?_) (fun hc => ?_)
      · replace h := i_neg hc h
        refine lv_iconst (v := 0) hx hb d_Model_step_45 (by decide) ?_
        refine lv_istore_n (lv' := [(2, .int (0 : Int32)), (0, .ref a0), (1, .int x1)]) hx hb d_Model_step_46 rfl hl (Nat.le_of_ble_eq_true rfl) rfl (fun ls hl => ?_)
        exact b_Model_step_47 cx 100 _ _ _ _ _ _ _ o0 h hP hS (lv_sub hl [1, 2, 0] rfl)
      · replace h := i_pos hc h
        refine lv_aload_n hx hb d_Model_step_39 rfl (lv_at hl 0 rfl) ?_
        refine lv_iload_n hx hb d_Model_step_40 rfl (lv_at hl 1 rfl) ?_
        obtain ⟨v41, I41, e41, h⟩ := ob2_el h
        refine gg_Vi (As := [.int x1]) (rest := []) (ci := 5) (C := R_Model) (T := F_Model) (N := 23) ⟨hx, hb, hml, hown, hall⟩ (c_Model_committing l hT o0 e41) (cwV 1 hall (gV m_475 m_476 m_477 m_338 m_474) rfl rfl rfl (by decide +kernel) ⟨Nat.le_of_ble_eq_true rfl, Nat.le_of_ble_eq_true rfl⟩) hK hP hS o0.1 (wE_5 o0.2) rfl rfl hl.1 rfl (Nat.le_of_ble_eq_true rfl) d_Model_step_41 (fun H locs hP hS => ?_)
        obtain ⟨rfl, rfl⟩ := rt_el h
        exact gg_iret hx hb hr hlk hK hP hS d_Model_step_44
    · replace h := i_pos hc h
      refine lv_aload_n hx hb d_Model_step_23 rfl (lv_at hl 0 rfl) ?_
      refine lv_iload_n hx hb d_Model_step_24 rfl (lv_at hl 1 rfl) ?_
      obtain ⟨v25, I25, e25, h⟩ := ob2_el h
      refine gg_Vi (As := [.int x1]) (rest := []) (ci := 5) (C := R_Model) (T := F_Model) (N := 23) ⟨hx, hb, hml, hown, hall⟩ (c_Model_prepared l hT o0 e25) (cwV 1 hall (gV m_478 m_479 m_480 m_338 m_472) rfl rfl rfl (by decide +kernel) ⟨Nat.le_of_ble_eq_true rfl, Nat.le_of_ble_eq_true rfl⟩) hK hP hS o0.1 (wE_5 o0.2) rfl rfl hl.1 rfl (Nat.le_of_ble_eq_true rfl) d_Model_step_25 (fun H locs hP hS => ?_)
      obtain ⟨rfl, rfl⟩ := rt_el h
      exact gg_iret hx hb hr hlk hK hP hS d_Model_step_28
  · replace h := i_pos hc h
    refine lv_iconst (v := (-1)) hx hb d_Model_step_11 (by decide) ?_
    obtain ⟨rfl, rfl⟩ := rt_el h
    exact gg_iret hx hb hr hlk hK hP hS d_Model_step_12
abbrev b_Model_state : ByteArray := prog_7_method_46_code
def y_Model_state : MethodName := ⟨"StampedStoreModel", "state", "(I)I"⟩
def w_Model_state : List Cond := .code y_Model_state b_Model_state 2 (some .int) :: w_all
theorem d_Model_state_0 : decode b_Model_state 0 = .ok (.iload_n 1, 1) := by decide +kernel
theorem d_Model_state_1 : decode b_Model_state 1 = .ok (.aload_n 0, 1) := by decide +kernel
theorem d_Model_state_2 : decode b_Model_state 2 = .ok (.getfield 135, 3) := by decide +kernel
theorem d_Model_state_5 : decode b_Model_state 5 = .ok (.invokestatic 78, 3) := by decide +kernel
theorem d_Model_state_8 : decode b_Model_state 8 = .ok (.ifCond .eq 12, 3) := by decide +kernel
theorem d_Model_state_11 : decode b_Model_state 11 = .ok (.aload_n 0, 1) := by decide +kernel
theorem d_Model_state_12 : decode b_Model_state 12 = .ok (.getfield 53, 3) := by decide +kernel
theorem d_Model_state_15 : decode b_Model_state 15 = .ok (.iload_n 1, 1) := by decide +kernel
theorem d_Model_state_16 : decode b_Model_state 16 = .ok (.iaload, 1) := by decide +kernel
theorem d_Model_state_17 : decode b_Model_state 17 = .ok (.goto 4, 3) := by decide +kernel
theorem d_Model_state_20 : decode b_Model_state 20 = .ok (.iconst (-1), 1) := by decide +kernel
theorem d_Model_state_21 : decode b_Model_state 21 = .ok (.ireturn, 1) := by decide +kernel
def F_Model_state (R : Nat → Nat → Nat) (a0 : Nat) (x1 : Int32) (I : St) : Option Int32 := (ob (F_Model_below R x1 (I a0 16) I) (fun v5 => (if v5 = 0 then some (-1 : Int32) else (chk x1 16 (some (I (R a0 17) x1.toNatClampNeg))))))
set_option maxHeartbeats 4000000 in
set_option maxRecDepth 100000 in
theorem c_Model_state (l : Launch) {g : Sg} {R : Nat → Nat → Nat} (hT : Ty g R) {a0 : Nat} (o0 : okA g 5 0 a0) {x1 : Int32} {I : St} {v : Int32} (h : F_Model_state R a0 x1 I = some v) : Cti l g R y_Model_state w_Model_state 1 21 [.ref a0, .int x1] I v I := by
  unfold Cti
  refine Met.ofW (cc := b_Model_state) (maxL := 2) (ret := (some .int)) (by decide) rfl ?_
  intro p e s m args below meth c s₁ B hml hv
  obtain ⟨rfl, hP, hK⟩ := hv
  have hts := atoms_spec (ws := w_Model_state) B.pre
  have hall : ∀ w ∈ w_all, w.before _ s = true := fun w hw => hts w (List.mem_cons_of_mem _ hw)
  have hown : s.vm.findClass R_Model = some m.cls := findClass_of_methodNamed B.named
  have hx := B.exec
  have hb := B.bytes
  have hr := B.returns
  have hlk := B.notSynchronized
  have cx : Cx p s m _ meth c g R R_Model b_Model_state 2 (some .int) := ⟨hx, hb, hml, hr, hlk, hown, hall, hT, hK⟩
  have hl := lv_entry ([.ref a0, .int x1]) (n := 2) (Nat.le_of_ble_eq_true rfl)
  rw [lg_entry_eq]
  generalize (lg_sl ([.ref a0, .int x1]) ++ List.replicate (2 - (lg_sl ([.ref a0, .int x1])).length) Slot.unset).toArray = ls at hl ⊢
  have hl : lv_has ls 2 [(0, .ref a0), (1, .int x1)] := hl
  have hS : va_S (· ∈ g.L) s.heap s.heap [] := va_S.rf
  unfold F_Model_state at h
  refine lv_iload_n hx hb d_Model_state_0 rfl (lv_at hl 1 rfl) ?_
  refine lv_aload_n hx hb d_Model_state_1 rfl (lv_at hl 0 rfl) ?_
  refine gg_get (C := R_Model) (T := F_Model) (N := 23) (ci := 5) hx hb hall i_Model hown hK hP o0.1 (wE_5 o0.2) rfl 16 (by decide) (hall _ m_419) (fun _ h9 => h9) rfl d_Model_state_2 ?_
  obtain ⟨v5, e5, h⟩ := ob_el h
  refine gg_Si (As := [.int x1, .int (I a0 16)]) (rest := []) ⟨hx, hb, hml, hown, hall⟩ (c_Model_below l hT e5) (cwS 2 hall (gS m_336 m_337 m_338 m_329) rfl rfl rfl (by decide +kernel) ⟨Nat.le_of_ble_eq_true rfl, Nat.le_of_ble_eq_true rfl⟩) hK hP hS rfl hl.1 rfl (Nat.le_of_ble_eq_true rfl) d_Model_state_5 (fun H locs hP hS => ?_)
  refine lv_if_eq hx hb d_Model_state_8 rfl (fun hc => ?_) (fun hc => ?_)
  · replace h := i_pos hc h
    refine lv_iconst (v := (-1)) hx hb d_Model_state_20 (by decide) ?_
    obtain rfl := Option.some.inj h
    exact gg_iret hx hb hr hlk hK hP hS d_Model_state_21
  · replace h := i_neg hc h
    refine lv_aload_n hx hb d_Model_state_11 rfl (lv_at hl 0 rfl) ?_
    refine gg_get (C := R_Model) (T := F_Model) (N := 23) (ci := 5) hx hb hall i_Model hown hK hP o0.1 (wE_5 o0.2) rfl 17 (by decide) (hall _ m_449) (fun _ h9 => h9) rfl d_Model_state_12 ?_
    have o_12 : okA g 6 16 (R a0 17) := ty_Model_17 hT o0
    refine lv_iload_n hx hb d_Model_state_15 rfl (lv_at hl 1 rfl) ?_
    obtain ⟨hi16, h⟩ := chk_el h
    refine gg_iald hx hb hK hP o_12 hi16 d_Model_state_16 ?_
    refine lv_goto hx hb d_Model_state_17 rfl ?_
    obtain rfl := Option.some.inj h
    exact gg_iret hx hb hr hlk hK hP hS d_Model_state_21
abbrev b_Model_stamp : ByteArray := prog_7_method_47_code
def y_Model_stamp : MethodName := ⟨"StampedStoreModel", "stamp", "(I)I"⟩
def w_Model_stamp : List Cond := .code y_Model_stamp b_Model_stamp 2 (some .int) :: w_all
theorem d_Model_stamp_0 : decode b_Model_stamp 0 = .ok (.iload_n 1, 1) := by decide +kernel
theorem d_Model_stamp_1 : decode b_Model_stamp 1 = .ok (.aload_n 0, 1) := by decide +kernel
theorem d_Model_stamp_2 : decode b_Model_stamp 2 = .ok (.getfield 135, 3) := by decide +kernel
theorem d_Model_stamp_5 : decode b_Model_stamp 5 = .ok (.invokestatic 78, 3) := by decide +kernel
theorem d_Model_stamp_8 : decode b_Model_stamp 8 = .ok (.ifCond .ne 7, 3) := by decide +kernel
theorem d_Model_stamp_11 : decode b_Model_stamp 11 = .ok (.iconst (-1), 1) := by decide +kernel
theorem d_Model_stamp_12 : decode b_Model_stamp 12 = .ok (.goto 32, 3) := by decide +kernel
theorem d_Model_stamp_15 : decode b_Model_stamp 15 = .ok (.aload_n 0, 1) := by decide +kernel
theorem d_Model_stamp_16 : decode b_Model_stamp 16 = .ok (.getfield 53, 3) := by decide +kernel
theorem d_Model_stamp_19 : decode b_Model_stamp 19 = .ok (.iload_n 1, 1) := by decide +kernel
theorem d_Model_stamp_20 : decode b_Model_stamp 20 = .ok (.iaload, 1) := by decide +kernel
theorem d_Model_stamp_21 : decode b_Model_stamp 21 = .ok (.iconst 3, 1) := by decide +kernel
theorem d_Model_stamp_22 : decode b_Model_stamp 22 = .ok (.if_icmp .ne 21, 3) := by decide +kernel
theorem d_Model_stamp_25 : decode b_Model_stamp 25 = .ok (.aload_n 0, 1) := by decide +kernel
theorem d_Model_stamp_26 : decode b_Model_stamp 26 = .ok (.getfield 59, 3) := by decide +kernel
theorem d_Model_stamp_29 : decode b_Model_stamp 29 = .ok (.iload_n 1, 1) := by decide +kernel
theorem d_Model_stamp_30 : decode b_Model_stamp 30 = .ok (.iaload, 1) := by decide +kernel
theorem d_Model_stamp_31 : decode b_Model_stamp 31 = .ok (.ifCond .eq 12, 3) := by decide +kernel
theorem d_Model_stamp_34 : decode b_Model_stamp 34 = .ok (.aload_n 0, 1) := by decide +kernel
theorem d_Model_stamp_35 : decode b_Model_stamp 35 = .ok (.getfield 68, 3) := by decide +kernel
theorem d_Model_stamp_38 : decode b_Model_stamp 38 = .ok (.iload_n 1, 1) := by decide +kernel
theorem d_Model_stamp_39 : decode b_Model_stamp 39 = .ok (.iaload, 1) := by decide +kernel
theorem d_Model_stamp_40 : decode b_Model_stamp 40 = .ok (.goto 4, 3) := by decide +kernel
theorem d_Model_stamp_43 : decode b_Model_stamp 43 = .ok (.iconst 0, 1) := by decide +kernel
theorem d_Model_stamp_44 : decode b_Model_stamp 44 = .ok (.ireturn, 1) := by decide +kernel
def B_Model_stamp_43 (R : Nat → Nat → Nat) (I : St) : Option Int32 := some (0 : Int32)
set_option maxHeartbeats 4000000 in
set_option maxRecDepth 100000 in
theorem b_Model_stamp_43 {p : Program} {l : Launch} {e : Env} {s : State} {m : MethodId} {args : Array Value} {below : List Frame} {meth : Method} {c : Code} {g : Sg} {R : Nat → Nat → Nat} {I : St} {v : Int32} (cx : Cx p s m args meth c g R R_Model b_Model_stamp 2 (some .int)) : ∀ (H : Heap) (locs : List Loc) (ls : Array Slot), B_Model_stamp_43 R I = some v → wW g R I H → va_S (· ∈ g.L) s.heap H locs → lv_has ls 2 [] → W p l e { frames := 1, cells := 0, slots := 0, locals := 21 } s m args below meth c H locs 0 0 (MQ below (Qi g R v I) args s 0 0 (· ∈ g.L)) (F0 m 43 ls []) := by
  have ⟨hx, hb, hml, hr, hlk, hown, hall, hT, hK⟩ := cx
  intro H locs ls h hP hS hl
  unfold B_Model_stamp_43 at h
  refine lv_iconst (v := 0) hx hb d_Model_stamp_43 (by decide) ?_
  obtain rfl := Option.some.inj h
  exact gg_iret hx hb hr hlk hK hP hS d_Model_stamp_44
def F_Model_stamp (R : Nat → Nat → Nat) (a0 : Nat) (x1 : Int32) (I : St) : Option Int32 := (ob (F_Model_below R x1 (I a0 16) I) (fun v5 => (if v5 = 0 then some (-1 : Int32) else (chk x1 16 ((if (I (R a0 17) x1.toNatClampNeg) = (3 : Int32) then (chk x1 16 ((if (I (R a0 19) x1.toNatClampNeg) = 0 then B_Model_stamp_43 R I else (chk x1 16 (some (I (R a0 22) x1.toNatClampNeg)))))) else B_Model_stamp_43 R I))))))
set_option maxHeartbeats 4000000 in
set_option maxRecDepth 100000 in
theorem c_Model_stamp (l : Launch) {g : Sg} {R : Nat → Nat → Nat} (hT : Ty g R) {a0 : Nat} (o0 : okA g 5 0 a0) {x1 : Int32} {I : St} {v : Int32} (h : F_Model_stamp R a0 x1 I = some v) : Cti l g R y_Model_stamp w_Model_stamp 1 21 [.ref a0, .int x1] I v I := by
  unfold Cti
  refine Met.ofW (cc := b_Model_stamp) (maxL := 2) (ret := (some .int)) (by decide) rfl ?_
  intro p e s m args below meth c s₁ B hml hv
  obtain ⟨rfl, hP, hK⟩ := hv
  have hts := atoms_spec (ws := w_Model_stamp) B.pre
  have hall : ∀ w ∈ w_all, w.before _ s = true := fun w hw => hts w (List.mem_cons_of_mem _ hw)
  have hown : s.vm.findClass R_Model = some m.cls := findClass_of_methodNamed B.named
  have hx := B.exec
  have hb := B.bytes
  have hr := B.returns
  have hlk := B.notSynchronized
  have cx : Cx p s m _ meth c g R R_Model b_Model_stamp 2 (some .int) := ⟨hx, hb, hml, hr, hlk, hown, hall, hT, hK⟩
  have hl := lv_entry ([.ref a0, .int x1]) (n := 2) (Nat.le_of_ble_eq_true rfl)
  rw [lg_entry_eq]
  generalize (lg_sl ([.ref a0, .int x1]) ++ List.replicate (2 - (lg_sl ([.ref a0, .int x1])).length) Slot.unset).toArray = ls at hl ⊢
  have hl : lv_has ls 2 [(0, .ref a0), (1, .int x1)] := hl
  have hS : va_S (· ∈ g.L) s.heap s.heap [] := va_S.rf
  unfold F_Model_stamp at h
  refine lv_iload_n hx hb d_Model_stamp_0 rfl (lv_at hl 1 rfl) ?_
  refine lv_aload_n hx hb d_Model_stamp_1 rfl (lv_at hl 0 rfl) ?_
  refine gg_get (C := R_Model) (T := F_Model) (N := 23) (ci := 5) hx hb hall i_Model hown hK hP o0.1 (wE_5 o0.2) rfl 16 (by decide) (hall _ m_419) (fun _ h9 => h9) rfl d_Model_stamp_2 ?_
  obtain ⟨v5, e5, h⟩ := ob_el h
  refine gg_Si (As := [.int x1, .int (I a0 16)]) (rest := []) ⟨hx, hb, hml, hown, hall⟩ (c_Model_below l hT e5) (cwS 2 hall (gS m_336 m_337 m_338 m_329) rfl rfl rfl (by decide +kernel) ⟨Nat.le_of_ble_eq_true rfl, Nat.le_of_ble_eq_true rfl⟩) hK hP hS rfl hl.1 rfl (Nat.le_of_ble_eq_true rfl) d_Model_stamp_5 (fun H locs hP hS => ?_)
  refine lv_if_ne hx hb d_Model_stamp_8 rfl (fun hc => ?_) (fun hc => ?_)
  · replace h := i_neg hc h
    refine lv_aload_n hx hb d_Model_stamp_15 rfl (lv_at hl 0 rfl) ?_
    refine gg_get (C := R_Model) (T := F_Model) (N := 23) (ci := 5) hx hb hall i_Model hown hK hP o0.1 (wE_5 o0.2) rfl 17 (by decide) (hall _ m_449) (fun _ h9 => h9) rfl d_Model_stamp_16 ?_
    have o_16 : okA g 6 16 (R a0 17) := ty_Model_17 hT o0
    refine lv_iload_n hx hb d_Model_stamp_19 rfl (lv_at hl 1 rfl) ?_
    obtain ⟨hi20, h⟩ := chk_el h
    refine gg_iald hx hb hK hP o_16 hi20 d_Model_stamp_20 ?_
    refine lv_iconst (v := 3) hx hb d_Model_stamp_21 (by decide) ?_
    refine lv_icmp_ne hx hb d_Model_stamp_22 rfl (fun hc => ?_) (fun hc => ?_)
    · replace h := i_neg hc h
      exact b_Model_stamp_43 cx _ _ _ h hP hS (lv_sub hl [] rfl)
    · replace h := i_pos hc h
      refine lv_aload_n hx hb d_Model_stamp_25 rfl (lv_at hl 0 rfl) ?_
      refine gg_get (C := R_Model) (T := F_Model) (N := 23) (ci := 5) hx hb hall i_Model hown hK hP o0.1 (wE_5 o0.2) rfl 19 (by decide) (hall _ m_423) (fun _ h9 => h9) rfl d_Model_stamp_26 ?_
      have o_26 : okA g 6 16 (R a0 19) := ty_Model_19 hT o0
      refine lv_iload_n hx hb d_Model_stamp_29 rfl (lv_at hl 1 rfl) ?_
      obtain ⟨hi30, h⟩ := chk_el h
      refine gg_iald hx hb hK hP o_26 hi30 d_Model_stamp_30 ?_
      refine lv_if_eq hx hb d_Model_stamp_31 rfl (fun hc => ?_) (fun hc => ?_)
      · replace h := i_pos hc h
        exact b_Model_stamp_43 cx _ _ _ h hP hS (lv_sub hl [] rfl)
      · replace h := i_neg hc h
        refine lv_aload_n hx hb d_Model_stamp_34 rfl (lv_at hl 0 rfl) ?_
        refine gg_get (C := R_Model) (T := F_Model) (N := 23) (ci := 5) hx hb hall i_Model hown hK hP o0.1 (wE_5 o0.2) rfl 22 (by decide) (hall _ m_473) (fun _ h9 => h9) rfl d_Model_stamp_35 ?_
        have o_35 : okA g 6 16 (R a0 22) := ty_Model_22 hT o0
        refine lv_iload_n hx hb d_Model_stamp_38 rfl (lv_at hl 1 rfl) ?_
        obtain ⟨hi39, h⟩ := chk_el h
        refine gg_iald hx hb hK hP o_35 hi39 d_Model_stamp_39 ?_
        refine lv_goto hx hb d_Model_stamp_40 rfl ?_
        obtain rfl := Option.some.inj h
        exact gg_iret hx hb hr hlk hK hP hS d_Model_stamp_44
  · replace h := i_pos hc h
    refine lv_iconst (v := (-1)) hx hb d_Model_stamp_11 (by decide) ?_
    refine lv_goto hx hb d_Model_stamp_12 rfl ?_
    obtain rfl := Option.some.inj h
    exact gg_iret hx hb hr hlk hK hP hS d_Model_stamp_44
abbrev b_Model_safe : ByteArray := prog_7_method_48_code
def y_Model_safe : MethodName := ⟨"StampedStoreModel", "safe", "(I)I"⟩
def w_Model_safe : List Cond := .code y_Model_safe b_Model_safe 6 (some .int) :: w_all
theorem d_Model_safe_0 : decode b_Model_safe 0 = .ok (.iload_n 1, 1) := by decide +kernel
theorem d_Model_safe_1 : decode b_Model_safe 1 = .ok (.bipush 6, 2) := by decide +kernel
theorem d_Model_safe_3 : decode b_Model_safe 3 = .ok (.invokestatic 78, 3) := by decide +kernel
theorem d_Model_safe_6 : decode b_Model_safe 6 = .ok (.ifCond .eq 12, 3) := by decide +kernel
theorem d_Model_safe_9 : decode b_Model_safe 9 = .ok (.aload_n 0, 1) := by decide +kernel
theorem d_Model_safe_10 : decode b_Model_safe 10 = .ok (.getfield 35, 3) := by decide +kernel
theorem d_Model_safe_13 : decode b_Model_safe 13 = .ok (.iload_n 1, 1) := by decide +kernel
theorem d_Model_safe_14 : decode b_Model_safe 14 = .ok (.iaload, 1) := by decide +kernel
theorem d_Model_safe_15 : decode b_Model_safe 15 = .ok (.ifCond .ne 5, 3) := by decide +kernel
theorem d_Model_safe_18 : decode b_Model_safe 18 = .ok (.iconst (-1), 1) := by decide +kernel
theorem d_Model_safe_19 : decode b_Model_safe 19 = .ok (.ireturn, 1) := by decide +kernel
theorem d_Model_safe_20 : decode b_Model_safe 20 = .ok (.aload_n 0, 1) := by decide +kernel
theorem d_Model_safe_21 : decode b_Model_safe 21 = .ok (.getfield 41, 3) := by decide +kernel
theorem d_Model_safe_24 : decode b_Model_safe 24 = .ok (.bipush 60, 2) := by decide +kernel
theorem d_Model_safe_26 : decode b_Model_safe 26 = .ok (.iload_n 1, 1) := by decide +kernel
theorem d_Model_safe_27 : decode b_Model_safe 27 = .ok (.imul, 1) := by decide +kernel
theorem d_Model_safe_28 : decode b_Model_safe 28 = .ok (.aload_n 0, 1) := by decide +kernel
theorem d_Model_safe_29 : decode b_Model_safe 29 = .ok (.getfield 35, 3) := by decide +kernel
theorem d_Model_safe_32 : decode b_Model_safe 32 = .ok (.iload_n 1, 1) := by decide +kernel
theorem d_Model_safe_33 : decode b_Model_safe 33 = .ok (.iaload, 1) := by decide +kernel
theorem d_Model_safe_34 : decode b_Model_safe 34 = .ok (.iadd, 1) := by decide +kernel
theorem d_Model_safe_35 : decode b_Model_safe 35 = .ok (.iconst 1, 1) := by decide +kernel
theorem d_Model_safe_36 : decode b_Model_safe 36 = .ok (.isub, 1) := by decide +kernel
theorem d_Model_safe_37 : decode b_Model_safe 37 = .ok (.iaload, 1) := by decide +kernel
theorem d_Model_safe_38 : decode b_Model_safe 38 = .ok (.istore_n 2, 1) := by decide +kernel
theorem d_Model_safe_39 : decode b_Model_safe 39 = .ok (.iconst 0, 1) := by decide +kernel
theorem d_Model_safe_40 : decode b_Model_safe 40 = .ok (.istore_n 3, 1) := by decide +kernel
theorem d_Model_safe_41 : decode b_Model_safe 41 = .ok (.iload_n 3, 1) := by decide +kernel
theorem d_Model_safe_42 : decode b_Model_safe 42 = .ok (.aload_n 0, 1) := by decide +kernel
theorem d_Model_safe_43 : decode b_Model_safe 43 = .ok (.getfield 35, 3) := by decide +kernel
theorem d_Model_safe_46 : decode b_Model_safe 46 = .ok (.iload_n 1, 1) := by decide +kernel
theorem d_Model_safe_47 : decode b_Model_safe 47 = .ok (.iaload, 1) := by decide +kernel
theorem d_Model_safe_48 : decode b_Model_safe 48 = .ok (.if_icmp .ge 97, 3) := by decide +kernel
theorem d_Model_safe_51 : decode b_Model_safe 51 = .ok (.bipush 60, 2) := by decide +kernel
theorem d_Model_safe_53 : decode b_Model_safe 53 = .ok (.iload_n 1, 1) := by decide +kernel
theorem d_Model_safe_54 : decode b_Model_safe 54 = .ok (.imul, 1) := by decide +kernel
theorem d_Model_safe_55 : decode b_Model_safe 55 = .ok (.iload_n 3, 1) := by decide +kernel
theorem d_Model_safe_56 : decode b_Model_safe 56 = .ok (.iadd, 1) := by decide +kernel
theorem d_Model_safe_57 : decode b_Model_safe 57 = .ok (.istore 4, 2) := by decide +kernel
theorem d_Model_safe_59 : decode b_Model_safe 59 = .ok (.aload_n 0, 1) := by decide +kernel
theorem d_Model_safe_60 : decode b_Model_safe 60 = .ok (.getfield 44, 3) := by decide +kernel
theorem d_Model_safe_63 : decode b_Model_safe 63 = .ok (.iload 4, 2) := by decide +kernel
theorem d_Model_safe_65 : decode b_Model_safe 65 = .ok (.iaload, 1) := by decide +kernel
theorem d_Model_safe_66 : decode b_Model_safe 66 = .ok (.iconst 1, 1) := by decide +kernel
theorem d_Model_safe_67 : decode b_Model_safe 67 = .ok (.if_icmp .ne 39, 3) := by decide +kernel
theorem d_Model_safe_70 : decode b_Model_safe 70 = .ok (.aload_n 0, 1) := by decide +kernel
theorem d_Model_safe_71 : decode b_Model_safe 71 = .ok (.iload_n 1, 1) := by decide +kernel
theorem d_Model_safe_72 : decode b_Model_safe 72 = .ok (.aload_n 0, 1) := by decide +kernel
theorem d_Model_safe_73 : decode b_Model_safe 73 = .ok (.getfield 47, 3) := by decide +kernel
theorem d_Model_safe_76 : decode b_Model_safe 76 = .ok (.iload 4, 2) := by decide +kernel
theorem d_Model_safe_78 : decode b_Model_safe 78 = .ok (.iaload, 1) := by decide +kernel
theorem d_Model_safe_79 : decode b_Model_safe 79 = .ok (.iconst 2, 1) := by decide +kernel
theorem d_Model_safe_80 : decode b_Model_safe 80 = .ok (.invokevirtual 147, 3) := by decide +kernel
theorem d_Model_safe_83 : decode b_Model_safe 83 = .ok (.ifCond .ne 23, 3) := by decide +kernel
theorem d_Model_safe_86 : decode b_Model_safe 86 = .ok (.aload_n 0, 1) := by decide +kernel
theorem d_Model_safe_87 : decode b_Model_safe 87 = .ok (.iload_n 1, 1) := by decide +kernel
theorem d_Model_safe_88 : decode b_Model_safe 88 = .ok (.aload_n 0, 1) := by decide +kernel
theorem d_Model_safe_89 : decode b_Model_safe 89 = .ok (.getfield 47, 3) := by decide +kernel
theorem d_Model_safe_92 : decode b_Model_safe 92 = .ok (.iload 4, 2) := by decide +kernel
theorem d_Model_safe_94 : decode b_Model_safe 94 = .ok (.iaload, 1) := by decide +kernel
theorem d_Model_safe_95 : decode b_Model_safe 95 = .ok (.iconst 3, 1) := by decide +kernel
theorem d_Model_safe_96 : decode b_Model_safe 96 = .ok (.invokevirtual 147, 3) := by decide +kernel
theorem d_Model_safe_99 : decode b_Model_safe 99 = .ok (.ifCond .ne 7, 3) := by decide +kernel
theorem d_Model_safe_102 : decode b_Model_safe 102 = .ok (.iconst 1, 1) := by decide +kernel
theorem d_Model_safe_103 : decode b_Model_safe 103 = .ok (.goto 4, 3) := by decide +kernel
theorem d_Model_safe_106 : decode b_Model_safe 106 = .ok (.iconst 0, 1) := by decide +kernel
theorem d_Model_safe_107 : decode b_Model_safe 107 = .ok (.istore 5, 2) := by decide +kernel
theorem d_Model_safe_109 : decode b_Model_safe 109 = .ok (.iload 5, 2) := by decide +kernel
theorem d_Model_safe_111 : decode b_Model_safe 111 = .ok (.ifCond .eq 26, 3) := by decide +kernel
theorem d_Model_safe_114 : decode b_Model_safe 114 = .ok (.aload_n 0, 1) := by decide +kernel
theorem d_Model_safe_115 : decode b_Model_safe 115 = .ok (.getfield 41, 3) := by decide +kernel
theorem d_Model_safe_118 : decode b_Model_safe 118 = .ok (.iload 4, 2) := by decide +kernel
theorem d_Model_safe_120 : decode b_Model_safe 120 = .ok (.iaload, 1) := by decide +kernel
theorem d_Model_safe_121 : decode b_Model_safe 121 = .ok (.iload_n 2, 1) := by decide +kernel
theorem d_Model_safe_122 : decode b_Model_safe 122 = .ok (.if_icmp .gt 15, 3) := by decide +kernel
theorem d_Model_safe_125 : decode b_Model_safe 125 = .ok (.aload_n 0, 1) := by decide +kernel
theorem d_Model_safe_126 : decode b_Model_safe 126 = .ok (.getfield 41, 3) := by decide +kernel
theorem d_Model_safe_129 : decode b_Model_safe 129 = .ok (.iload 4, 2) := by decide +kernel
theorem d_Model_safe_131 : decode b_Model_safe 131 = .ok (.iaload, 1) := by decide +kernel
theorem d_Model_safe_132 : decode b_Model_safe 132 = .ok (.iconst 1, 1) := by decide +kernel
theorem d_Model_safe_133 : decode b_Model_safe 133 = .ok (.isub, 1) := by decide +kernel
theorem d_Model_safe_134 : decode b_Model_safe 134 = .ok (.goto 4, 3) := by decide +kernel
theorem d_Model_safe_137 : decode b_Model_safe 137 = .ok (.iload_n 2, 1) := by decide +kernel
theorem d_Model_safe_138 : decode b_Model_safe 138 = .ok (.istore_n 2, 1) := by decide +kernel
theorem d_Model_safe_139 : decode b_Model_safe 139 = .ok (.iinc 3 1, 3) := by decide +kernel
theorem d_Model_safe_142 : decode b_Model_safe 142 = .ok (.goto (-101), 3) := by decide +kernel
theorem d_Model_safe_145 : decode b_Model_safe 145 = .ok (.iload_n 2, 1) := by decide +kernel
theorem d_Model_safe_146 : decode b_Model_safe 146 = .ok (.ireturn, 1) := by decide +kernel
def B_Model_safe_18 (R : Nat → Nat → Nat) (I : St) : Option Int32 := some (-1 : Int32)
set_option maxHeartbeats 4000000 in
set_option maxRecDepth 100000 in
theorem b_Model_safe_18 {p : Program} {l : Launch} {e : Env} {s : State} {m : MethodId} {args : Array Value} {below : List Frame} {meth : Method} {c : Code} {g : Sg} {R : Nat → Nat → Nat} {I : St} {v : Int32} (cx : Cx p s m args meth c g R R_Model b_Model_safe 6 (some .int)) : ∀ (H : Heap) (locs : List Loc) (ls : Array Slot), B_Model_safe_18 R I = some v → wW g R I H → va_S (· ∈ g.L) s.heap H locs → lv_has ls 6 [] → W p l e { frames := 2, cells := 0, slots := 0, locals := 49 } s m args below meth c H locs 0 0 (MQ below (Qi g R v I) args s 0 0 (· ∈ g.L)) (F0 m 18 ls []) := by
  have ⟨hx, hb, hml, hr, hlk, hown, hall, hT, hK⟩ := cx
  intro H locs ls h hP hS hl
  unfold B_Model_safe_18 at h
  refine lv_iconst (v := (-1)) hx hb d_Model_safe_18 (by decide) ?_
  obtain rfl := Option.some.inj h
  exact gg_iret hx hb hr hlk hK hP hS d_Model_safe_19
def B_Model_safe_138 (R : Nat → Nat → Nat) (I : St) (k41 : Nat → Int32 → Int32 → Int32 → Option Int32) (a0 : Nat) (x1 : Int32) (x3 : Int32) (t0 : Int32) : Option Int32 := k41 a0 x1 t0 (x3 + 1)
set_option maxHeartbeats 4000000 in
set_option maxRecDepth 100000 in
theorem b_Model_safe_138 {p : Program} {l : Launch} {e : Env} {s : State} {m : MethodId} {args : Array Value} {below : List Frame} {meth : Method} {c : Code} {g : Sg} {R : Nat → Nat → Nat} {I : St} {v : Int32} (cx : Cx p s m args meth c g R R_Model b_Model_safe 6 (some .int)) {k41 : Nat → Int32 → Int32 → Int32 → Option Int32} (hk41 : ∀ (a0 : Nat) (x1 : Int32) (x2 : Int32) (x3 : Int32) (H : Heap) (locs : List Loc) (ls : Array Slot), okA g 5 0 a0 → k41 a0 x1 x2 x3 = some v → wW g R I H → va_S (· ∈ g.L) s.heap H locs → lv_has ls 6 [(0, .ref a0), (1, .int x1), (2, .int x2), (3, .int x3)] → W p l e { frames := 2, cells := 0, slots := 0, locals := 49 } s m args below meth c H locs 0 0 (MQ below (Qi g R v I) args s 0 0 (· ∈ g.L)) (F0 m 41 ls [])) : ∀ (a0 : Nat) (x1 : Int32) (x3 : Int32) (t0 : Int32) (H : Heap) (locs : List Loc) (ls : Array Slot), okA g 5 0 a0 → B_Model_safe_138 R I k41 a0 x1 x3 t0 = some v → wW g R I H → va_S (· ∈ g.L) s.heap H locs → lv_has ls 6 [(0, .ref a0), (1, .int x1), (3, .int x3)] → W p l e { frames := 2, cells := 0, slots := 0, locals := 49 } s m args below meth c H locs 0 0 (MQ below (Qi g R v I) args s 0 0 (· ∈ g.L)) (F0 m 138 ls [.int t0]) := by
  have ⟨hx, hb, hml, hr, hlk, hown, hall, hT, hK⟩ := cx
  intro a0 x1 x3 t0 H locs ls o0 h hP hS hl
  unfold B_Model_safe_138 at h
  refine lv_istore_n (lv' := [(2, .int t0), (0, .ref a0), (1, .int x1), (3, .int x3)]) hx hb d_Model_safe_138 rfl hl (Nat.le_of_ble_eq_true rfl) rfl (fun ls hl => ?_)
  refine lv_iinc (k := 3) (v := (x3 + 1)) (lv' := [(3, .int (x3 + 1)), (2, .int t0), (0, .ref a0), (1, .int x1)]) hx hb d_Model_safe_139 hl rfl (by rw [show Int32.ofInt 1 = (1 : Int32) from by decide]) (Nat.le_of_ble_eq_true rfl) rfl (fun ls hl => ?_)
  refine lv_goto hx hb d_Model_safe_142 rfl ?_
  exact hk41 _ _ _ _ _ _ _ o0 h hP hS (lv_sub hl [2, 3, 1, 0] rfl)
def B_Model_safe_137 (R : Nat → Nat → Nat) (I : St) (k41 : Nat → Int32 → Int32 → Int32 → Option Int32) (a0 : Nat) (x1 : Int32) (x2 : Int32) (x3 : Int32) : Option Int32 := B_Model_safe_138 R I k41 a0 x1 x3 x2
set_option maxHeartbeats 4000000 in
set_option maxRecDepth 100000 in
theorem b_Model_safe_137 {p : Program} {l : Launch} {e : Env} {s : State} {m : MethodId} {args : Array Value} {below : List Frame} {meth : Method} {c : Code} {g : Sg} {R : Nat → Nat → Nat} {I : St} {v : Int32} (cx : Cx p s m args meth c g R R_Model b_Model_safe 6 (some .int)) {k41 : Nat → Int32 → Int32 → Int32 → Option Int32} (hk41 : ∀ (a0 : Nat) (x1 : Int32) (x2 : Int32) (x3 : Int32) (H : Heap) (locs : List Loc) (ls : Array Slot), okA g 5 0 a0 → k41 a0 x1 x2 x3 = some v → wW g R I H → va_S (· ∈ g.L) s.heap H locs → lv_has ls 6 [(0, .ref a0), (1, .int x1), (2, .int x2), (3, .int x3)] → W p l e { frames := 2, cells := 0, slots := 0, locals := 49 } s m args below meth c H locs 0 0 (MQ below (Qi g R v I) args s 0 0 (· ∈ g.L)) (F0 m 41 ls [])) : ∀ (a0 : Nat) (x1 : Int32) (x2 : Int32) (x3 : Int32) (H : Heap) (locs : List Loc) (ls : Array Slot), okA g 5 0 a0 → B_Model_safe_137 R I k41 a0 x1 x2 x3 = some v → wW g R I H → va_S (· ∈ g.L) s.heap H locs → lv_has ls 6 [(0, .ref a0), (1, .int x1), (2, .int x2), (3, .int x3)] → W p l e { frames := 2, cells := 0, slots := 0, locals := 49 } s m args below meth c H locs 0 0 (MQ below (Qi g R v I) args s 0 0 (· ∈ g.L)) (F0 m 137 ls []) := by
  have ⟨hx, hb, hml, hr, hlk, hown, hall, hT, hK⟩ := cx
  intro a0 x1 x2 x3 H locs ls o0 h hP hS hl
  unfold B_Model_safe_137 at h
  refine lv_iload_n hx hb d_Model_safe_137 rfl (lv_at hl 2 rfl) ?_
  exact b_Model_safe_138 cx hk41 _ _ _ _ _ _ _ o0 h hP hS (lv_sub hl [0, 1, 3] rfl)
def B_Model_safe_107 (R : Nat → Nat → Nat) (I : St) (k41 : Nat → Int32 → Int32 → Int32 → Option Int32) (a0 : Nat) (x1 : Int32) (x2 : Int32) (x3 : Int32) (x4 : Int32) (t0 : Int32) : Option Int32 := (if t0 = 0 then B_Model_safe_137 R I k41 a0 x1 x2 x3 else (chk x4 360 ((if x2 < (I (R a0 12) x4.toNatClampNeg) then B_Model_safe_137 R I k41 a0 x1 x2 x3 else (chk x4 360 (B_Model_safe_138 R I k41 a0 x1 x3 ((I (R a0 12) x4.toNatClampNeg) - (1 : Int32))))))))
set_option maxHeartbeats 4000000 in
set_option maxRecDepth 100000 in
theorem b_Model_safe_107 {p : Program} {l : Launch} {e : Env} {s : State} {m : MethodId} {args : Array Value} {below : List Frame} {meth : Method} {c : Code} {g : Sg} {R : Nat → Nat → Nat} {I : St} {v : Int32} (cx : Cx p s m args meth c g R R_Model b_Model_safe 6 (some .int)) {k41 : Nat → Int32 → Int32 → Int32 → Option Int32} (hk41 : ∀ (a0 : Nat) (x1 : Int32) (x2 : Int32) (x3 : Int32) (H : Heap) (locs : List Loc) (ls : Array Slot), okA g 5 0 a0 → k41 a0 x1 x2 x3 = some v → wW g R I H → va_S (· ∈ g.L) s.heap H locs → lv_has ls 6 [(0, .ref a0), (1, .int x1), (2, .int x2), (3, .int x3)] → W p l e { frames := 2, cells := 0, slots := 0, locals := 49 } s m args below meth c H locs 0 0 (MQ below (Qi g R v I) args s 0 0 (· ∈ g.L)) (F0 m 41 ls [])) : ∀ (a0 : Nat) (x1 : Int32) (x2 : Int32) (x3 : Int32) (x4 : Int32) (t0 : Int32) (H : Heap) (locs : List Loc) (ls : Array Slot), okA g 5 0 a0 → B_Model_safe_107 R I k41 a0 x1 x2 x3 x4 t0 = some v → wW g R I H → va_S (· ∈ g.L) s.heap H locs → lv_has ls 6 [(0, .ref a0), (1, .int x1), (2, .int x2), (3, .int x3), (4, .int x4)] → W p l e { frames := 2, cells := 0, slots := 0, locals := 49 } s m args below meth c H locs 0 0 (MQ below (Qi g R v I) args s 0 0 (· ∈ g.L)) (F0 m 107 ls [.int t0]) := by
  have ⟨hx, hb, hml, hr, hlk, hown, hall, hT, hK⟩ := cx
  intro a0 x1 x2 x3 x4 t0 H locs ls o0 h hP hS hl
  unfold B_Model_safe_107 at h
  refine lv_istore (lv' := [(5, .int t0), (0, .ref a0), (1, .int x1), (2, .int x2), (3, .int x3), (4, .int x4)]) hx hb d_Model_safe_107 hl (Nat.le_of_ble_eq_true rfl) rfl (fun ls hl => ?_)
  refine lv_iload hx hb d_Model_safe_109 (lv_at hl 0 rfl) ?_
  refine lv_if_eq hx hb d_Model_safe_111 rfl (fun hc => ?_) (fun hc => ?_)
  · replace h := i_pos hc h
    exact b_Model_safe_137 cx hk41 _ _ _ _ _ _ _ o0 h hP hS (lv_sub hl [1, 2, 3, 4] rfl)
  · replace h := i_neg hc h
    refine lv_aload_n hx hb d_Model_safe_114 rfl (lv_at hl 1 rfl) ?_
    refine gg_get (C := R_Model) (T := F_Model) (N := 23) (ci := 5) hx hb hall i_Model hown hK hP o0.1 (wE_5 o0.2) rfl 12 (by decide) (hall _ m_367) (fun _ h9 => h9) rfl d_Model_safe_115 ?_
    have o_115 : okA g 6 360 (R a0 12) := ty_Model_12 hT o0
    refine lv_iload hx hb d_Model_safe_118 (lv_at hl 5 rfl) ?_
    obtain ⟨hi120, h⟩ := chk_el h
    refine gg_iald hx hb hK hP o_115 hi120 d_Model_safe_120 ?_
    refine lv_iload_n hx hb d_Model_safe_121 rfl (lv_at hl 3 rfl) ?_
    refine lv_icmp_gt hx hb d_Model_safe_122 rfl (fun hc => ?_) (fun hc => ?_)
    · replace h := i_pos hc h
      exact b_Model_safe_137 cx hk41 _ _ _ _ _ _ _ o0 h hP hS (lv_sub hl [1, 2, 3, 4] rfl)
    · replace h := i_neg hc h
      refine lv_aload_n hx hb d_Model_safe_125 rfl (lv_at hl 1 rfl) ?_
      refine gg_get (C := R_Model) (T := F_Model) (N := 23) (ci := 5) hx hb hall i_Model hown hK hP o0.1 (wE_5 o0.2) rfl 12 (by decide) (hall _ m_367) (fun _ h9 => h9) rfl d_Model_safe_126 ?_
      have o_126 : okA g 6 360 (R a0 12) := ty_Model_12 hT o0
      refine lv_iload hx hb d_Model_safe_129 (lv_at hl 5 rfl) ?_
      obtain ⟨hi131, h⟩ := chk_el h
      refine gg_iald hx hb hK hP o_126 hi131 d_Model_safe_131 ?_
      refine lv_iconst (v := 1) hx hb d_Model_safe_132 (by decide) ?_
      refine lv_isub hx hb d_Model_safe_133 ?_
      refine lv_goto hx hb d_Model_safe_134 rfl ?_
      exact b_Model_safe_138 cx hk41 _ _ _ _ _ _ _ o0 h hP hS (lv_sub hl [1, 2, 4] rfl)
def B_Model_safe_106 (R : Nat → Nat → Nat) (I : St) (k41 : Nat → Int32 → Int32 → Int32 → Option Int32) (a0 : Nat) (x1 : Int32) (x2 : Int32) (x3 : Int32) (x4 : Int32) : Option Int32 := B_Model_safe_107 R I k41 a0 x1 x2 x3 x4 (0 : Int32)
set_option maxHeartbeats 4000000 in
set_option maxRecDepth 100000 in
theorem b_Model_safe_106 {p : Program} {l : Launch} {e : Env} {s : State} {m : MethodId} {args : Array Value} {below : List Frame} {meth : Method} {c : Code} {g : Sg} {R : Nat → Nat → Nat} {I : St} {v : Int32} (cx : Cx p s m args meth c g R R_Model b_Model_safe 6 (some .int)) {k41 : Nat → Int32 → Int32 → Int32 → Option Int32} (hk41 : ∀ (a0 : Nat) (x1 : Int32) (x2 : Int32) (x3 : Int32) (H : Heap) (locs : List Loc) (ls : Array Slot), okA g 5 0 a0 → k41 a0 x1 x2 x3 = some v → wW g R I H → va_S (· ∈ g.L) s.heap H locs → lv_has ls 6 [(0, .ref a0), (1, .int x1), (2, .int x2), (3, .int x3)] → W p l e { frames := 2, cells := 0, slots := 0, locals := 49 } s m args below meth c H locs 0 0 (MQ below (Qi g R v I) args s 0 0 (· ∈ g.L)) (F0 m 41 ls [])) : ∀ (a0 : Nat) (x1 : Int32) (x2 : Int32) (x3 : Int32) (x4 : Int32) (H : Heap) (locs : List Loc) (ls : Array Slot), okA g 5 0 a0 → B_Model_safe_106 R I k41 a0 x1 x2 x3 x4 = some v → wW g R I H → va_S (· ∈ g.L) s.heap H locs → lv_has ls 6 [(0, .ref a0), (1, .int x1), (2, .int x2), (3, .int x3), (4, .int x4)] → W p l e { frames := 2, cells := 0, slots := 0, locals := 49 } s m args below meth c H locs 0 0 (MQ below (Qi g R v I) args s 0 0 (· ∈ g.L)) (F0 m 106 ls []) := by
  have ⟨hx, hb, hml, hr, hlk, hown, hall, hT, hK⟩ := cx
  intro a0 x1 x2 x3 x4 H locs ls o0 h hP hS hl
  unfold B_Model_safe_106 at h
  refine lv_iconst (v := 0) hx hb d_Model_safe_106 (by decide) ?_
  exact b_Model_safe_107 cx hk41 _ _ _ _ _ _ _ _ _ o0 h hP hS (lv_sub hl [0, 1, 2, 3, 4] rfl)
def B_Model_safe_41 (R : Nat → Nat → Nat) (I : St) : Nat → Nat → Int32 → Int32 → Int32 → Option Int32
  | 0, _, _, _, _ => none
  | f + 1, a0, x1, x2, x3 => (chk x1 6 ((if (I (R a0 10) x1.toNatClampNeg) ≤ x3 then some x2 else (chk (((60 : Int32) * x1) + x3) 360 ((if (I (R a0 13) (((60 : Int32) * x1) + x3).toNatClampNeg) = (1 : Int32) then (chk (((60 : Int32) * x1) + x3) 360 ((ob (F_Model_knows R a0 x1 (I (R a0 14) (((60 : Int32) * x1) + x3).toNatClampNeg) (2 : Int32) I) (fun v80 => (if v80 = 0 then (chk (((60 : Int32) * x1) + x3) 360 ((ob (F_Model_knows R a0 x1 (I (R a0 14) (((60 : Int32) * x1) + x3).toNatClampNeg) (3 : Int32) I) (fun v96 => (if v96 = 0 then B_Model_safe_107 R I (B_Model_safe_41 R I f) a0 x1 x2 x3 (((60 : Int32) * x1) + x3) (1 : Int32) else B_Model_safe_106 R I (B_Model_safe_41 R I f) a0 x1 x2 x3 (((60 : Int32) * x1) + x3)))))) else B_Model_safe_106 R I (B_Model_safe_41 R I f) a0 x1 x2 x3 (((60 : Int32) * x1) + x3)))))) else B_Model_safe_106 R I (B_Model_safe_41 R I f) a0 x1 x2 x3 (((60 : Int32) * x1) + x3)))))))
set_option maxHeartbeats 4000000 in
set_option maxRecDepth 100000 in
theorem b_Model_safe_41 {p : Program} {l : Launch} {e : Env} {s : State} {m : MethodId} {args : Array Value} {below : List Frame} {meth : Method} {c : Code} {g : Sg} {R : Nat → Nat → Nat} {I : St} {v : Int32} (cx : Cx p s m args meth c g R R_Model b_Model_safe 6 (some .int)) (f : Nat) : ∀ (a0 : Nat) (x1 : Int32) (x2 : Int32) (x3 : Int32) (H : Heap) (locs : List Loc) (ls : Array Slot), okA g 5 0 a0 → B_Model_safe_41 R I f a0 x1 x2 x3 = some v → wW g R I H → va_S (· ∈ g.L) s.heap H locs → lv_has ls 6 [(0, .ref a0), (1, .int x1), (2, .int x2), (3, .int x3)] → W p l e { frames := 2, cells := 0, slots := 0, locals := 49 } s m args below meth c H locs 0 0 (MQ below (Qi g R v I) args s 0 0 (· ∈ g.L)) (F0 m 41 ls []) := by
  have ⟨hx, hb, hml, hr, hlk, hown, hall, hT, hK⟩ := cx
  induction f with
  | zero => intro a0 x1 x2 x3 H locs ls o0 h; unfold B_Model_safe_41 at h; cases h
  | succ f ih =>
    intro a0 x1 x2 x3 H locs ls o0 h hP hS hl
    unfold B_Model_safe_41 at h
    refine lv_iload_n hx hb d_Model_safe_41 rfl (lv_at hl 3 rfl) ?_
    refine lv_aload_n hx hb d_Model_safe_42 rfl (lv_at hl 0 rfl) ?_
    refine gg_get (C := R_Model) (T := F_Model) (N := 23) (ci := 5) hx hb hall i_Model hown hK hP o0.1 (wE_5 o0.2) rfl 10 (by decide) (hall _ m_349) (fun _ h9 => h9) rfl d_Model_safe_43 ?_
    have o_43 : okA g 6 6 (R a0 10) := ty_Model_10 hT o0
    refine lv_iload_n hx hb d_Model_safe_46 rfl (lv_at hl 1 rfl) ?_
    obtain ⟨hi47, h⟩ := chk_el h
    refine gg_iald hx hb hK hP o_43 hi47 d_Model_safe_47 ?_
    refine lv_icmp_ge hx hb d_Model_safe_48 rfl (fun hc => ?_) (fun hc => ?_)
    · replace h := i_pos hc h
      refine lv_iload_n hx hb d_Model_safe_145 rfl (lv_at hl 2 rfl) ?_
      obtain rfl := Option.some.inj h
      exact gg_iret hx hb hr hlk hK hP hS d_Model_safe_146
    · replace h := i_neg hc h
      refine lv_bipush (v := 60) hx hb d_Model_safe_51 (by decide) ?_
      refine lv_iload_n hx hb d_Model_safe_53 rfl (lv_at hl 1 rfl) ?_
      refine lv_imul hx hb d_Model_safe_54 ?_
      refine lv_iload_n hx hb d_Model_safe_55 rfl (lv_at hl 3 rfl) ?_
      refine lv_iadd hx hb d_Model_safe_56 ?_
      refine lv_istore (lv' := [(4, .int (((60 : Int32) * x1) + x3)), (0, .ref a0), (1, .int x1), (2, .int x2), (3, .int x3)]) hx hb d_Model_safe_57 hl (Nat.le_of_ble_eq_true rfl) rfl (fun ls hl => ?_)
      refine lv_aload_n hx hb d_Model_safe_59 rfl (lv_at hl 1 rfl) ?_
      refine gg_get (C := R_Model) (T := F_Model) (N := 23) (ci := 5) hx hb hall i_Model hown hK hP o0.1 (wE_5 o0.2) rfl 13 (by decide) (hall _ m_364) (fun _ h9 => h9) rfl d_Model_safe_60 ?_
      have o_60 : okA g 6 360 (R a0 13) := ty_Model_13 hT o0
      refine lv_iload hx hb d_Model_safe_63 (lv_at hl 0 rfl) ?_
      obtain ⟨hi65, h⟩ := chk_el h
      refine gg_iald hx hb hK hP o_60 hi65 d_Model_safe_65 ?_
      refine lv_iconst (v := 1) hx hb d_Model_safe_66 (by decide) ?_
      refine lv_icmp_ne hx hb d_Model_safe_67 rfl (fun hc => ?_) (fun hc => ?_)
      · replace h := i_neg hc h
        exact b_Model_safe_106 cx ih _ _ _ _ _ _ _ _ o0 h hP hS (lv_sub hl [1, 2, 3, 4, 0] rfl)
      · replace h := i_pos hc h
        refine lv_aload_n hx hb d_Model_safe_70 rfl (lv_at hl 1 rfl) ?_
        refine lv_iload_n hx hb d_Model_safe_71 rfl (lv_at hl 2 rfl) ?_
        refine lv_aload_n hx hb d_Model_safe_72 rfl (lv_at hl 1 rfl) ?_
        refine gg_get (C := R_Model) (T := F_Model) (N := 23) (ci := 5) hx hb hall i_Model hown hK hP o0.1 (wE_5 o0.2) rfl 14 (by decide) (hall _ m_370) (fun _ h9 => h9) rfl d_Model_safe_73 ?_
        have o_73 : okA g 6 360 (R a0 14) := ty_Model_14 hT o0
        refine lv_iload hx hb d_Model_safe_76 (lv_at hl 0 rfl) ?_
        obtain ⟨hi78, h⟩ := chk_el h
        refine gg_iald hx hb hK hP o_73 hi78 d_Model_safe_78 ?_
        refine lv_iconst (v := 2) hx hb d_Model_safe_79 (by decide) ?_
        obtain ⟨v80, e80, h⟩ := ob_el h
        refine gg_Vi (As := [.int x1, .int (I (R a0 14) (((60 : Int32) * x1) + x3).toNatClampNeg), .int (2 : Int32)]) (rest := []) (ci := 5) (C := R_Model) (T := F_Model) (N := 23) ⟨hx, hb, hml, hown, hall⟩ (c_Model_knows l hT o0 e80) (cwV 3 hall (gV m_436 m_437 m_438 m_338 m_377) rfl rfl rfl (by decide +kernel) ⟨Nat.le_of_ble_eq_true rfl, Nat.le_of_ble_eq_true rfl⟩) hK hP hS o0.1 (wE_5 o0.2) rfl rfl hl.1 rfl (Nat.le_of_ble_eq_true rfl) d_Model_safe_80 (fun H locs hP hS => ?_)
        refine lv_if_ne hx hb d_Model_safe_83 rfl (fun hc => ?_) (fun hc => ?_)
        · replace h := i_neg hc h
          exact b_Model_safe_106 cx ih _ _ _ _ _ _ _ _ o0 h hP hS (lv_sub hl [1, 2, 3, 4, 0] rfl)
        · replace h := i_pos hc h
          refine lv_aload_n hx hb d_Model_safe_86 rfl (lv_at hl 1 rfl) ?_
          refine lv_iload_n hx hb d_Model_safe_87 rfl (lv_at hl 2 rfl) ?_
          refine lv_aload_n hx hb d_Model_safe_88 rfl (lv_at hl 1 rfl) ?_
          refine gg_get (C := R_Model) (T := F_Model) (N := 23) (ci := 5) hx hb hall i_Model hown hK hP o0.1 (wE_5 o0.2) rfl 14 (by decide) (hall _ m_370) (fun _ h9 => h9) rfl d_Model_safe_89 ?_
          have o_89 : okA g 6 360 (R a0 14) := ty_Model_14 hT o0
          refine lv_iload hx hb d_Model_safe_92 (lv_at hl 0 rfl) ?_
          obtain ⟨hi94, h⟩ := chk_el h
          refine gg_iald hx hb hK hP o_89 hi94 d_Model_safe_94 ?_
          refine lv_iconst (v := 3) hx hb d_Model_safe_95 (by decide) ?_
          obtain ⟨v96, e96, h⟩ := ob_el h
          refine gg_Vi (As := [.int x1, .int (I (R a0 14) (((60 : Int32) * x1) + x3).toNatClampNeg), .int (3 : Int32)]) (rest := []) (ci := 5) (C := R_Model) (T := F_Model) (N := 23) ⟨hx, hb, hml, hown, hall⟩ (c_Model_knows l hT o0 e96) (cwV 3 hall (gV m_436 m_437 m_438 m_338 m_377) rfl rfl rfl (by decide +kernel) ⟨Nat.le_of_ble_eq_true rfl, Nat.le_of_ble_eq_true rfl⟩) hK hP hS o0.1 (wE_5 o0.2) rfl rfl hl.1 rfl (Nat.le_of_ble_eq_true rfl) d_Model_safe_96 (fun H locs hP hS => ?_)
          refine lv_if_ne hx hb d_Model_safe_99 rfl (fun hc => ?_) (fun hc => ?_)
          · replace h := i_neg hc h
            exact b_Model_safe_106 cx ih _ _ _ _ _ _ _ _ o0 h hP hS (lv_sub hl [1, 2, 3, 4, 0] rfl)
          · replace h := i_pos hc h
            refine lv_iconst (v := 1) hx hb d_Model_safe_102 (by decide) ?_
            refine lv_goto hx hb d_Model_safe_103 rfl ?_
            exact b_Model_safe_107 cx ih _ _ _ _ _ _ _ _ _ o0 h hP hS (lv_sub hl [1, 2, 3, 4, 0] rfl)
def F_Model_safe (R : Nat → Nat → Nat) (a0 : Nat) (x1 : Int32) (I : St) : Option Int32 := (ob (F_Model_below R x1 (6 : Int32) I) (fun v3 => (if v3 = 0 then B_Model_safe_18 R I else (chk x1 6 ((if (I (R a0 10) x1.toNatClampNeg) = 0 then B_Model_safe_18 R I else (chk x1 6 ((chk ((((60 : Int32) * x1) + (I (R a0 10) x1.toNatClampNeg)) - (1 : Int32)) 360 (B_Model_safe_41 R I 100 a0 x1 (I (R a0 12) ((((60 : Int32) * x1) + (I (R a0 10) x1.toNatClampNeg)) - (1 : Int32)).toNatClampNeg) (0 : Int32)))))))))))
set_option maxHeartbeats 4000000 in
set_option maxRecDepth 100000 in
theorem c_Model_safe (l : Launch) {g : Sg} {R : Nat → Nat → Nat} (hT : Ty g R) {a0 : Nat} (o0 : okA g 5 0 a0) {x1 : Int32} {I : St} {v : Int32} (h : F_Model_safe R a0 x1 I = some v) : Cti l g R y_Model_safe w_Model_safe 2 49 [.ref a0, .int x1] I v I := by
  unfold Cti
  refine Met.ofW (cc := b_Model_safe) (maxL := 6) (ret := (some .int)) (by decide) rfl ?_
  intro p e s m args below meth c s₁ B hml hv
  obtain ⟨rfl, hP, hK⟩ := hv
  have hts := atoms_spec (ws := w_Model_safe) B.pre
  have hall : ∀ w ∈ w_all, w.before _ s = true := fun w hw => hts w (List.mem_cons_of_mem _ hw)
  have hown : s.vm.findClass R_Model = some m.cls := findClass_of_methodNamed B.named
  have hx := B.exec
  have hb := B.bytes
  have hr := B.returns
  have hlk := B.notSynchronized
  have cx : Cx p s m _ meth c g R R_Model b_Model_safe 6 (some .int) := ⟨hx, hb, hml, hr, hlk, hown, hall, hT, hK⟩
  have hl := lv_entry ([.ref a0, .int x1]) (n := 6) (Nat.le_of_ble_eq_true rfl)
  rw [lg_entry_eq]
  generalize (lg_sl ([.ref a0, .int x1]) ++ List.replicate (6 - (lg_sl ([.ref a0, .int x1])).length) Slot.unset).toArray = ls at hl ⊢
  have hl : lv_has ls 6 [(0, .ref a0), (1, .int x1)] := hl
  have hS : va_S (· ∈ g.L) s.heap s.heap [] := va_S.rf
  unfold F_Model_safe at h
  refine lv_iload_n hx hb d_Model_safe_0 rfl (lv_at hl 1 rfl) ?_
  refine lv_bipush (v := 6) hx hb d_Model_safe_1 (by decide) ?_
  obtain ⟨v3, e3, h⟩ := ob_el h
  refine gg_Si (As := [.int x1, .int (6 : Int32)]) (rest := []) ⟨hx, hb, hml, hown, hall⟩ (c_Model_below l hT e3) (cwS 2 hall (gS m_336 m_337 m_338 m_329) rfl rfl rfl (by decide +kernel) ⟨Nat.le_of_ble_eq_true rfl, Nat.le_of_ble_eq_true rfl⟩) hK hP hS rfl hl.1 rfl (Nat.le_of_ble_eq_true rfl) d_Model_safe_3 (fun H locs hP hS => ?_)
  refine lv_if_eq hx hb d_Model_safe_6 rfl (fun hc => ?_) (fun hc => ?_)
  · replace h := i_pos hc h
    exact b_Model_safe_18 cx _ _ _ h hP hS (lv_sub hl [] rfl)
  · replace h := i_neg hc h
    refine lv_aload_n hx hb d_Model_safe_9 rfl (lv_at hl 0 rfl) ?_
    refine gg_get (C := R_Model) (T := F_Model) (N := 23) (ci := 5) hx hb hall i_Model hown hK hP o0.1 (wE_5 o0.2) rfl 10 (by decide) (hall _ m_349) (fun _ h9 => h9) rfl d_Model_safe_10 ?_
    have o_10 : okA g 6 6 (R a0 10) := ty_Model_10 hT o0
    refine lv_iload_n hx hb d_Model_safe_13 rfl (lv_at hl 1 rfl) ?_
    obtain ⟨hi14, h⟩ := chk_el h
    refine gg_iald hx hb hK hP o_10 hi14 d_Model_safe_14 ?_
    refine lv_if_ne hx hb d_Model_safe_15 rfl (fun hc => ?_) (fun hc => ?_)
    · replace h := i_neg hc h
      refine lv_aload_n hx hb d_Model_safe_20 rfl (lv_at hl 0 rfl) ?_
      refine gg_get (C := R_Model) (T := F_Model) (N := 23) (ci := 5) hx hb hall i_Model hown hK hP o0.1 (wE_5 o0.2) rfl 12 (by decide) (hall _ m_367) (fun _ h9 => h9) rfl d_Model_safe_21 ?_
      have o_21 : okA g 6 360 (R a0 12) := ty_Model_12 hT o0
      refine lv_bipush (v := 60) hx hb d_Model_safe_24 (by decide) ?_
      refine lv_iload_n hx hb d_Model_safe_26 rfl (lv_at hl 1 rfl) ?_
      refine lv_imul hx hb d_Model_safe_27 ?_
      refine lv_aload_n hx hb d_Model_safe_28 rfl (lv_at hl 0 rfl) ?_
      refine gg_get (C := R_Model) (T := F_Model) (N := 23) (ci := 5) hx hb hall i_Model hown hK hP o0.1 (wE_5 o0.2) rfl 10 (by decide) (hall _ m_349) (fun _ h9 => h9) rfl d_Model_safe_29 ?_
      have o_29 : okA g 6 6 (R a0 10) := ty_Model_10 hT o0
      refine lv_iload_n hx hb d_Model_safe_32 rfl (lv_at hl 1 rfl) ?_
      obtain ⟨hi33, h⟩ := chk_el h
      refine gg_iald hx hb hK hP o_29 hi33 d_Model_safe_33 ?_
      refine lv_iadd hx hb d_Model_safe_34 ?_
      refine lv_iconst (v := 1) hx hb d_Model_safe_35 (by decide) ?_
      refine lv_isub hx hb d_Model_safe_36 ?_
      obtain ⟨hi37, h⟩ := chk_el h
      refine gg_iald hx hb hK hP o_21 hi37 d_Model_safe_37 ?_
      refine lv_istore_n (lv' := [(2, .int (I (R a0 12) ((((60 : Int32) * x1) + (I (R a0 10) x1.toNatClampNeg)) - (1 : Int32)).toNatClampNeg)), (0, .ref a0), (1, .int x1)]) hx hb d_Model_safe_38 rfl hl (Nat.le_of_ble_eq_true rfl) rfl (fun ls hl => ?_)
      refine lv_iconst (v := 0) hx hb d_Model_safe_39 (by decide) ?_
      refine lv_istore_n (lv' := [(3, .int (0 : Int32)), (2, .int (I (R a0 12) ((((60 : Int32) * x1) + (I (R a0 10) x1.toNatClampNeg)) - (1 : Int32)).toNatClampNeg)), (0, .ref a0), (1, .int x1)]) hx hb d_Model_safe_40 rfl hl (Nat.le_of_ble_eq_true rfl) rfl (fun ls hl => ?_)
      exact b_Model_safe_41 cx 100 _ _ _ _ _ _ _ o0 h hP hS (lv_sub hl [2, 3, 1, 0] rfl)
    · replace h := i_pos hc h
      exact b_Model_safe_18 cx _ _ _ h hP hS (lv_sub hl [] rfl)
end
