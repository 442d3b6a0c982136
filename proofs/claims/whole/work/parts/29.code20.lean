section
abbrev b_Model_waits : ByteArray := prog_7_method_38_code
def y_Model_waits : MethodName := ⟨"StampedStoreModel", "waits", "(II)Z"⟩
def w_Model_waits : List Cond := .code y_Model_waits b_Model_waits 7 (some .boolean) :: w_all
theorem d_Model_waits_0 : decode b_Model_waits 0 = .ok (.aload_n 0, 1) := by decide +kernel
theorem d_Model_waits_1 : decode b_Model_waits 1 = .ok (.iload_n 2, 1) := by decide +kernel
theorem d_Model_waits_2 : decode b_Model_waits 2 = .ok (.iconst 4, 1) := by decide +kernel
theorem d_Model_waits_3 : decode b_Model_waits 3 = .ok (.idiv, 1) := by decide +kernel
theorem d_Model_waits_4 : decode b_Model_waits 4 = .ok (.invokevirtual 93, 3) := by decide +kernel
theorem d_Model_waits_7 : decode b_Model_waits 7 = .ok (.istore_n 3, 1) := by decide +kernel
theorem d_Model_waits_8 : decode b_Model_waits 8 = .ok (.iconst 0, 1) := by decide +kernel
theorem d_Model_waits_9 : decode b_Model_waits 9 = .ok (.istore 4, 2) := by decide +kernel
theorem d_Model_waits_11 : decode b_Model_waits 11 = .ok (.iconst 0, 1) := by decide +kernel
theorem d_Model_waits_12 : decode b_Model_waits 12 = .ok (.istore 5, 2) := by decide +kernel
theorem d_Model_waits_14 : decode b_Model_waits 14 = .ok (.iload 5, 2) := by decide +kernel
theorem d_Model_waits_16 : decode b_Model_waits 16 = .ok (.aload_n 0, 1) := by decide +kernel
theorem d_Model_waits_17 : decode b_Model_waits 17 = .ok (.getfield 135, 3) := by decide +kernel
theorem d_Model_waits_20 : decode b_Model_waits 20 = .ok (.if_icmp .ge 93, 3) := by decide +kernel
theorem d_Model_waits_23 : decode b_Model_waits 23 = .ok (.iload 5, 2) := by decide +kernel
theorem d_Model_waits_25 : decode b_Model_waits 25 = .ok (.iload_n 1, 1) := by decide +kernel
theorem d_Model_waits_26 : decode b_Model_waits 26 = .ok (.if_icmp .ge 44, 3) := by decide +kernel
theorem d_Model_waits_29 : decode b_Model_waits 29 = .ok (.aload_n 0, 1) := by decide +kernel
theorem d_Model_waits_30 : decode b_Model_waits 30 = .ok (.getfield 53, 3) := by decide +kernel
theorem d_Model_waits_33 : decode b_Model_waits 33 = .ok (.iload 5, 2) := by decide +kernel
theorem d_Model_waits_35 : decode b_Model_waits 35 = .ok (.iaload, 1) := by decide +kernel
theorem d_Model_waits_36 : decode b_Model_waits 36 = .ok (.ifCond .ne 34, 3) := by decide +kernel
theorem d_Model_waits_39 : decode b_Model_waits 39 = .ok (.aload_n 0, 1) := by decide +kernel
theorem d_Model_waits_40 : decode b_Model_waits 40 = .ok (.getfield 56, 3) := by decide +kernel
theorem d_Model_waits_43 : decode b_Model_waits 43 = .ok (.iload 5, 2) := by decide +kernel
theorem d_Model_waits_45 : decode b_Model_waits 45 = .ok (.iaload, 1) := by decide +kernel
theorem d_Model_waits_46 : decode b_Model_waits 46 = .ok (.iload_n 2, 1) := by decide +kernel
theorem d_Model_waits_47 : decode b_Model_waits 47 = .ok (.ishr, 1) := by decide +kernel
theorem d_Model_waits_48 : decode b_Model_waits 48 = .ok (.iconst 1, 1) := by decide +kernel
theorem d_Model_waits_49 : decode b_Model_waits 49 = .ok (.iand, 1) := by decide +kernel
theorem d_Model_waits_50 : decode b_Model_waits 50 = .ok (.iconst 1, 1) := by decide +kernel
theorem d_Model_waits_51 : decode b_Model_waits 51 = .ok (.if_icmp .ne 19, 3) := by decide +kernel
theorem d_Model_waits_54 : decode b_Model_waits 54 = .ok (.aload_n 0, 1) := by decide +kernel
theorem d_Model_waits_55 : decode b_Model_waits 55 = .ok (.iload 5, 2) := by decide +kernel
theorem d_Model_waits_57 : decode b_Model_waits 57 = .ok (.iload_n 2, 1) := by decide +kernel
theorem d_Model_waits_58 : decode b_Model_waits 58 = .ok (.iconst 4, 1) := by decide +kernel
theorem d_Model_waits_59 : decode b_Model_waits 59 = .ok (.idiv, 1) := by decide +kernel
theorem d_Model_waits_60 : decode b_Model_waits 60 = .ok (.invokevirtual 141, 3) := by decide +kernel
theorem d_Model_waits_63 : decode b_Model_waits 63 = .ok (.ifCond .eq 7, 3) := by decide +kernel
theorem d_Model_waits_66 : decode b_Model_waits 66 = .ok (.iconst 1, 1) := by decide +kernel
theorem d_Model_waits_67 : decode b_Model_waits 67 = .ok (.goto 4, 3) := by decide +kernel
theorem d_Model_waits_70 : decode b_Model_waits 70 = .ok (.iconst 0, 1) := by decide +kernel
theorem d_Model_waits_71 : decode b_Model_waits 71 = .ok (.istore 6, 2) := by decide +kernel
theorem d_Model_waits_73 : decode b_Model_waits 73 = .ok (.iload 4, 2) := by decide +kernel
theorem d_Model_waits_75 : decode b_Model_waits 75 = .ok (.ifCond .ne 25, 3) := by decide +kernel
theorem d_Model_waits_78 : decode b_Model_waits 78 = .ok (.iload 5, 2) := by decide +kernel
theorem d_Model_waits_80 : decode b_Model_waits 80 = .ok (.iload_n 1, 1) := by decide +kernel
theorem d_Model_waits_81 : decode b_Model_waits 81 = .ok (.if_icmp .eq 23, 3) := by decide +kernel
theorem d_Model_waits_84 : decode b_Model_waits 84 = .ok (.iload 6, 2) := by decide +kernel
theorem d_Model_waits_86 : decode b_Model_waits 86 = .ok (.ifCond .ne 14, 3) := by decide +kernel
theorem d_Model_waits_89 : decode b_Model_waits 89 = .ok (.aload_n 0, 1) := by decide +kernel
theorem d_Model_waits_90 : decode b_Model_waits 90 = .ok (.iload_n 3, 1) := by decide +kernel
theorem d_Model_waits_91 : decode b_Model_waits 91 = .ok (.iload 5, 2) := by decide +kernel
theorem d_Model_waits_93 : decode b_Model_waits 93 = .ok (.iload_n 2, 1) := by decide +kernel
theorem d_Model_waits_94 : decode b_Model_waits 94 = .ok (.invokevirtual 153, 3) := by decide +kernel
theorem d_Model_waits_97 : decode b_Model_waits 97 = .ok (.ifCond .eq 7, 3) := by decide +kernel
theorem d_Model_waits_100 : decode b_Model_waits 100 = .ok (.iconst 1, 1) := by decide +kernel
theorem d_Model_waits_101 : decode b_Model_waits 101 = .ok (.goto 4, 3) := by decide +kernel
theorem d_Model_waits_104 : decode b_Model_waits 104 = .ok (.iconst 0, 1) := by decide +kernel
theorem d_Model_waits_105 : decode b_Model_waits 105 = .ok (.istore 4, 2) := by decide +kernel
theorem d_Model_waits_107 : decode b_Model_waits 107 = .ok (.iinc 5 1, 3) := by decide +kernel
theorem d_Model_waits_110 : decode b_Model_waits 110 = .ok (.goto (-96), 3) := by decide +kernel
theorem d_Model_waits_113 : decode b_Model_waits 113 = .ok (.iload 4, 2) := by decide +kernel
theorem d_Model_waits_115 : decode b_Model_waits 115 = .ok (.ireturn, 1) := by decide +kernel
def B_Model_waits_105 (R : Nat → Nat → Nat) (I : St) (k14 : Nat → Int32 → Int32 → Int32 → Int32 → Int32 → Option Int32) (a0 : Nat) (x1 : Int32) (x2 : Int32) (x3 : Int32) (x5 : Int32) (t0 : Int32) : Option Int32 := k14 a0 x1 x2 x3 t0 (x5 + 1)
set_option maxHeartbeats 4000000 in
set_option maxRecDepth 100000 in
theorem b_Model_waits_105 {p : Program} {l : Launch} {e : Env} {s : State} {m : MethodId} {args : Array Value} {below : List Frame} {meth : Method} {c : Code} {g : Sg} {R : Nat → Nat → Nat} {I : St} {v : Int32} (cx : Cx p s m args meth c g R R_Model b_Model_waits 7 (some .boolean)) {k14 : Nat → Int32 → Int32 → Int32 → Int32 → Int32 → Option Int32} (hk14 : ∀ (a0 : Nat) (x1 : Int32) (x2 : Int32) (x3 : Int32) (x4 : Int32) (x5 : Int32) (H : Heap) (locs : List Loc) (ls : Array Slot), okA g 5 0 a0 → k14 a0 x1 x2 x3 x4 x5 = some v → wW g R I H → va_S (· ∈ g.L) s.heap H locs → lv_has ls 7 [(0, .ref a0), (1, .int x1), (2, .int x2), (3, .int x3), (4, .int x4), (5, .int x5)] → W p l e { frames := 5, cells := 0, slots := 0, locals := 110 } s m args below meth c H locs 0 0 (MQ below (Qi g R v I) args s 0 0 (· ∈ g.L)) (F0 m 14 ls [])) : ∀ (a0 : Nat) (x1 : Int32) (x2 : Int32) (x3 : Int32) (x5 : Int32) (t0 : Int32) (H : Heap) (locs : List Loc) (ls : Array Slot), okA g 5 0 a0 → B_Model_waits_105 R I k14 a0 x1 x2 x3 x5 t0 = some v → wW g R I H → va_S (· ∈ g.L) s.heap H locs → lv_has ls 7 [(0, .ref a0), (1, .int x1), (2, .int x2), (3, .int x3), (5, .int x5)] → W p l e { frames := 5, cells := 0, slots := 0, locals := 110 } s m args below meth c H locs 0 0 (MQ below (Qi g R v I) args s 0 0 (· ∈ g.L)) (F0 m 105 ls [.int t0]) := by
  have ⟨hx, hb, hml, hr, hlk, hown, hall, hT, hK⟩ := cx
  intro a0 x1 x2 x3 x5 t0 H locs ls o0 h hP hS hl
  unfold B_Model_waits_105 at h
  refine lv_istore (lv' := [(4, .int t0), (0, .ref a0), (1, .int x1), (2, .int x2), (3, .int x3), (5, .int x5)]) hx hb d_Model_waits_105 hl (Nat.le_of_ble_eq_true rfl) rfl (fun ls hl => ?_)
  refine lv_iinc (k := 5) (v := (x5 + 1)) (lv' := [(5, .int (x5 + 1)), (4, .int t0), (0, .ref a0), (1, .int x1), (2, .int x2), (3, .int x3)]) hx hb d_Model_waits_107 hl rfl (by rw [show Int32.ofInt 1 = (1 : Int32) from by decide]) (Nat.le_of_ble_eq_true rfl) rfl (fun ls hl => ?_)
  refine lv_goto hx hb d_Model_waits_110 rfl ?_
  exact hk14 _ _ _ _ _ _ _ _ _ o0 h hP hS (lv_sub hl [2, 3, 4, 5, 1, 0] rfl)
def B_Model_waits_100 (R : Nat → Nat → Nat) (I : St) (k14 : Nat → Int32 → Int32 → Int32 → Int32 → Int32 → Option Int32) (a0 : Nat) (x1 : Int32) (x2 : Int32) (x3 : Int32) (x5 : Int32) : Option Int32 := B_Model_waits_105 R I k14 a0 x1 x2 x3 x5 (1 : Int32)
set_option maxHeartbeats 4000000 in
set_option maxRecDepth 100000 in
theorem b_Model_waits_100 {p : Program} {l : Launch} {e : Env} {s : State} {m : MethodId} {args : Array Value} {below : List Frame} {meth : Method} {c : Code} {g : Sg} {R : Nat → Nat → Nat} {I : St} {v : Int32} (cx : Cx p s m args meth c g R R_Model b_Model_waits 7 (some .boolean)) {k14 : Nat → Int32 → Int32 → Int32 → Int32 → Int32 → Option Int32} (hk14 : ∀ (a0 : Nat) (x1 : Int32) (x2 : Int32) (x3 : Int32) (x4 : Int32) (x5 : Int32) (H : Heap) (locs : List Loc) (ls : Array Slot), okA g 5 0 a0 → k14 a0 x1 x2 x3 x4 x5 = some v → wW g R I H → va_S (· ∈ g.L) s.heap H locs → lv_has ls 7 [(0, .ref a0), (1, .int x1), (2, .int x2), (3, .int x3), (4, .int x4), (5, .int x5)] → W p l e { frames := 5, cells := 0, slots := 0, locals := 110 } s m args below meth c H locs 0 0 (MQ below (Qi g R v I) args s 0 0 (· ∈ g.L)) (F0 m 14 ls [])) : ∀ (a0 : Nat) (x1 : Int32) (x2 : Int32) (x3 : Int32) (x5 : Int32) (H : Heap) (locs : List Loc) (ls : Array Slot), okA g 5 0 a0 → B_Model_waits_100 R I k14 a0 x1 x2 x3 x5 = some v → wW g R I H → va_S (· ∈ g.L) s.heap H locs → lv_has ls 7 [(0, .ref a0), (1, .int x1), (2, .int x2), (3, .int x3), (5, .int x5)] → W p l e { frames := 5, cells := 0, slots := 0, locals := 110 } s m args below meth c H locs 0 0 (MQ below (Qi g R v I) args s 0 0 (· ∈ g.L)) (F0 m 100 ls []) := by
  have ⟨hx, hb, hml, hr, hlk, hown, hall, hT, hK⟩ := cx
  intro a0 x1 x2 x3 x5 H locs ls o0 h hP hS hl
  unfold B_Model_waits_100 at h
  refine lv_iconst (v := 1) hx hb d_Model_waits_100 (by decide) ?_
  refine lv_goto hx hb d_Model_waits_101 rfl ?_
  exact b_Model_waits_105 cx hk14 _ _ _ _ _ _ _ _ _ o0 h hP hS (lv_sub hl [0, 1, 2, 3, 4] rfl)
def B_Model_waits_104 (R : Nat → Nat → Nat) (I : St) (k14 : Nat → Int32 → Int32 → Int32 → Int32 → Int32 → Option Int32) (a0 : Nat) (x1 : Int32) (x2 : Int32) (x3 : Int32) (x5 : Int32) : Option Int32 := B_Model_waits_105 R I k14 a0 x1 x2 x3 x5 (0 : Int32)
set_option maxHeartbeats 4000000 in
set_option maxRecDepth 100000 in
theorem b_Model_waits_104 {p : Program} {l : Launch} {e : Env} {s : State} {m : MethodId} {args : Array Value} {below : List Frame} {meth : Method} {c : Code} {g : Sg} {R : Nat → Nat → Nat} {I : St} {v : Int32} (cx : Cx p s m args meth c g R R_Model b_Model_waits 7 (some .boolean)) {k14 : Nat → Int32 → Int32 → Int32 → Int32 → Int32 → Option Int32} (hk14 : ∀ (a0 : Nat) (x1 : Int32) (x2 : Int32) (x3 : Int32) (x4 : Int32) (x5 : Int32) (H : Heap) (locs : List Loc) (ls : Array Slot), okA g 5 0 a0 → k14 a0 x1 x2 x3 x4 x5 = some v → wW g R I H → va_S (· ∈ g.L) s.heap H locs → lv_has ls 7 [(0, .ref a0), (1, .int x1), (2, .int x2), (3, .int x3), (4, .int x4), (5, .int x5)] → W p l e { frames := 5, cells := 0, slots := 0, locals := 110 } s m args below meth c H locs 0 0 (MQ below (Qi g R v I) args s 0 0 (· ∈ g.L)) (F0 m 14 ls [])) : ∀ (a0 : Nat) (x1 : Int32) (x2 : Int32) (x3 : Int32) (x5 : Int32) (H : Heap) (locs : List Loc) (ls : Array Slot), okA g 5 0 a0 → B_Model_waits_104 R I k14 a0 x1 x2 x3 x5 = some v → wW g R I H → va_S (· ∈ g.L) s.heap H locs → lv_has ls 7 [(0, .ref a0), (1, .int x1), (2, .int x2), (3, .int x3), (5, .int x5)] → W p l e { frames := 5, cells := 0, slots := 0, locals := 110 } s m args below meth c H locs 0 0 (MQ below (Qi g R v I) args s 0 0 (· ∈ g.L)) (F0 m 104 ls []) := by
  have ⟨hx, hb, hml, hr, hlk, hown, hall, hT, hK⟩ := cx
  intro a0 x1 x2 x3 x5 H locs ls o0 h hP hS hl
  unfold B_Model_waits_104 at h
  refine lv_iconst (v := 0) hx hb d_Model_waits_104 (by decide) ?_
  exact b_Model_waits_105 cx hk14 _ _ _ _ _ _ _ _ _ o0 h hP hS (lv_sub hl [0, 1, 2, 3, 4] rfl)
def B_Model_waits_71 (R : Nat → Nat → Nat) (I : St) (k14 : Nat → Int32 → Int32 → Int32 → Int32 → Int32 → Option Int32) (a0 : Nat) (x1 : Int32) (x2 : Int32) (x3 : Int32) (x4 : Int32) (x5 : Int32) (t0 : Int32) : Option Int32 := (if x4 = 0 then (if x5 = x1 then B_Model_waits_104 R I k14 a0 x1 x2 x3 x5 else (if t0 = 0 then (ob (F_Model_logHolds R a0 x3 x5 x2 I) (fun v94 => (if v94 = 0 then B_Model_waits_104 R I k14 a0 x1 x2 x3 x5 else B_Model_waits_100 R I k14 a0 x1 x2 x3 x5))) else B_Model_waits_100 R I k14 a0 x1 x2 x3 x5)) else B_Model_waits_100 R I k14 a0 x1 x2 x3 x5)
set_option maxHeartbeats 4000000 in
set_option maxRecDepth 100000 in
theorem b_Model_waits_71 {p : Program} {l : Launch} {e : Env} {s : State} {m : MethodId} {args : Array Value} {below : List Frame} {meth : Method} {c : Code} {g : Sg} {R : Nat → Nat → Nat} {I : St} {v : Int32} (cx : Cx p s m args meth c g R R_Model b_Model_waits 7 (some .boolean)) {k14 : Nat → Int32 → Int32 → Int32 → Int32 → Int32 → Option Int32} (hk14 : ∀ (a0 : Nat) (x1 : Int32) (x2 : Int32) (x3 : Int32) (x4 : Int32) (x5 : Int32) (H : Heap) (locs : List Loc) (ls : Array Slot), okA g 5 0 a0 → k14 a0 x1 x2 x3 x4 x5 = some v → wW g R I H → va_S (· ∈ g.L) s.heap H locs → lv_has ls 7 [(0, .ref a0), (1, .int x1), (2, .int x2), (3, .int x3), (4, .int x4), (5, .int x5)] → W p l e { frames := 5, cells := 0, slots := 0, locals := 110 } s m args below meth c H locs 0 0 (MQ below (Qi g R v I) args s 0 0 (· ∈ g.L)) (F0 m 14 ls [])) : ∀ (a0 : Nat) (x1 : Int32) (x2 : Int32) (x3 : Int32) (x4 : Int32) (x5 : Int32) (t0 : Int32) (H : Heap) (locs : List Loc) (ls : Array Slot), okA g 5 0 a0 → B_Model_waits_71 R I k14 a0 x1 x2 x3 x4 x5 t0 = some v → wW g R I H → va_S (· ∈ g.L) s.heap H locs → lv_has ls 7 [(0, .ref a0), (1, .int x1), (2, .int x2), (3, .int x3), (4, .int x4), (5, .int x5)] → W p l e { frames := 5, cells := 0, slots := 0, locals := 110 } s m args below meth c H locs 0 0 (MQ below (Qi g R v I) args s 0 0 (· ∈ g.L)) (F0 m 71 ls [.int t0]) := by
  have ⟨hx, hb, hml, hr, hlk, hown, hall, hT, hK⟩ := cx
  intro a0 x1 x2 x3 x4 x5 t0 H locs ls o0 h hP hS hl
  unfold B_Model_waits_71 at h
  refine lv_istore (lv' := [(6, .int t0), (0, .ref a0), (1, .int x1), (2, .int x2), (3, .int x3), (4, .int x4), (5, .int x5)]) hx hb d_Model_waits_71 hl (Nat.le_of_ble_eq_true rfl) rfl (fun ls hl => ?_)
  refine lv_iload hx hb d_Model_waits_73 (lv_at hl 5 rfl) ?_
  refine lv_if_ne hx hb d_Model_waits_75 rfl (fun hc => ?_) (fun hc => ?_)
  · replace h := i_neg hc h
    exact b_Model_waits_100 cx hk14 _ _ _ _ _ _ _ _ o0 h hP hS (lv_sub hl [1, 2, 3, 4, 6] rfl)
  · replace h := i_pos hc h
    refine lv_iload hx hb d_Model_waits_78 (lv_at hl 6 rfl) ?_
    refine lv_iload_n hx hb d_Model_waits_80 rfl (lv_at hl 2 rfl) ?_
    refine lv_icmp_eq hx hb d_Model_waits_81 rfl (fun hc => ?_) (fun hc => ?_)
    · replace h := i_pos hc h
      exact b_Model_waits_104 cx hk14 _ _ _ _ _ _ _ _ o0 h hP hS (lv_sub hl [1, 2, 3, 4, 6] rfl)
    · replace h := i_neg hc h
      refine lv_iload hx hb d_Model_waits_84 (lv_at hl 0 rfl) ?_
      refine lv_if_ne hx hb d_Model_waits_86 rfl (fun hc => ?_) (fun hc => ?_)
      · replace h := i_neg hc h
        exact b_Model_waits_100 cx hk14 _ _ _ _ _ _ _ _ o0 h hP hS (lv_sub hl [1, 2, 3, 4, 6] rfl)
      · replace h := i_pos hc h
        refine lv_aload_n hx hb d_Model_waits_89 rfl (lv_at hl 1 rfl) ?_
        refine lv_iload_n hx hb d_Model_waits_90 rfl (lv_at hl 4 rfl) ?_
        refine lv_iload hx hb d_Model_waits_91 (lv_at hl 6 rfl) ?_
        refine lv_iload_n hx hb d_Model_waits_93 rfl (lv_at hl 3 rfl) ?_
        obtain ⟨v94, e94, h⟩ := ob_el h
        refine gg_Vi (As := [.int x3, .int x5, .int x2]) (rest := []) (ci := 5) (C := R_Model) (T := F_Model) (N := 23) ⟨hx, hb, hml, hown, hall⟩ (c_Model_logHolds l hT o0 e94) (cwV 3 hall (gV m_446 m_447 m_448 m_338 m_439) rfl rfl rfl (by decide +kernel) ⟨Nat.le_of_ble_eq_true rfl, Nat.le_of_ble_eq_true rfl⟩) hK hP hS o0.1 (wE_5 o0.2) rfl rfl hl.1 rfl (Nat.le_of_ble_eq_true rfl) d_Model_waits_94 (fun H locs hP hS => ?_)
        refine lv_if_eq hx hb d_Model_waits_97 rfl (fun hc => ?_) (fun hc => ?_)
        · replace h := i_pos hc h
          exact b_Model_waits_104 cx hk14 _ _ _ _ _ _ _ _ o0 h hP hS (lv_sub hl [1, 2, 3, 4, 6] rfl)
        · replace h := i_neg hc h
          exact b_Model_waits_100 cx hk14 _ _ _ _ _ _ _ _ o0 h hP hS (lv_sub hl [1, 2, 3, 4, 6] rfl)
def B_Model_waits_70 (R : Nat → Nat → Nat) (I : St) (k14 : Nat → Int32 → Int32 → Int32 → Int32 → Int32 → Option Int32) (a0 : Nat) (x1 : Int32) (x2 : Int32) (x3 : Int32) (x4 : Int32) (x5 : Int32) : Option Int32 := B_Model_waits_71 R I k14 a0 x1 x2 x3 x4 x5 (0 : Int32)
set_option maxHeartbeats 4000000 in
set_option maxRecDepth 100000 in
theorem b_Model_waits_70 {p : Program} {l : Launch} {e : Env} {s : State} {m : MethodId} {args : Array Value} {below : List Frame} {meth : Method} {c : Code} {g : Sg} {R : Nat → Nat → Nat} {I : St} {v : Int32} (cx : Cx p s m args meth c g R R_Model b_Model_waits 7 (some .boolean)) {k14 : Nat → Int32 → Int32 → Int32 → Int32 → Int32 → Option Int32} (hk14 : ∀ (a0 : Nat) (x1 : Int32) (x2 : Int32) (x3 : Int32) (x4 : Int32) (x5 : Int32) (H : Heap) (locs : List Loc) (ls : Array Slot), okA g 5 0 a0 → k14 a0 x1 x2 x3 x4 x5 = some v → wW g R I H → va_S (· ∈ g.L) s.heap H locs → lv_has ls 7 [(0, .ref a0), (1, .int x1), (2, .int x2), (3, .int x3), (4, .int x4), (5, .int x5)] → W p l e { frames := 5, cells := 0, slots := 0, locals := 110 } s m args below meth c H locs 0 0 (MQ below (Qi g R v I) args s 0 0 (· ∈ g.L)) (F0 m 14 ls [])) : ∀ (a0 : Nat) (x1 : Int32) (x2 : Int32) (x3 : Int32) (x4 : Int32) (x5 : Int32) (H : Heap) (locs : List Loc) (ls : Array Slot), okA g 5 0 a0 → B_Model_waits_70 R I k14 a0 x1 x2 x3 x4 x5 = some v → wW g R I H → va_S (· ∈ g.L) s.heap H locs → lv_has ls 7 [(0, .ref a0), (1, .int x1), (2, .int x2), (3, .int x3), (4, .int x4), (5, .int x5)] → W p l e { frames := 5, cells := 0, slots := 0, locals := 110 } s m args below meth c H locs 0 0 (MQ below (Qi g R v I) args s 0 0 (· ∈ g.L)) (F0 m 70 ls []) := by
  have ⟨hx, hb, hml, hr, hlk, hown, hall, hT, hK⟩ := cx
  intro a0 x1 x2 x3 x4 x5 H locs ls o0 h hP hS hl
  unfold B_Model_waits_70 at h
  refine lv_iconst (v := 0) hx hb d_Model_waits_70 (by decide) ?_
  exact b_Model_waits_71 cx hk14 _ _ _ _ _ _ _ _ _ _ o0 h hP hS (lv_sub hl [0, 1, 2, 3, 4, 5] rfl)
def B_Model_waits_14 (R : Nat → Nat → Nat) (I : St) : Nat → Nat → Int32 → Int32 → Int32 → Int32 → Int32 → Option Int32
  | 0, _, _, _, _, _, _ => none
  | f + 1, a0, x1, x2, x3, x4, x5 => (if (I a0 16) ≤ x5 then (zck x4 (some x4)) else (if x1 ≤ x5 then B_Model_waits_70 R I (B_Model_waits_14 R I f) a0 x1 x2 x3 x4 x5 else (chk x5 16 ((if (I (R a0 17) x5.toNatClampNeg) = 0 then (chk x5 16 ((if (((I (R a0 18) x5.toNatClampNeg) >>> (x2 &&& 31)) &&& (1 : Int32)) = (1 : Int32) then (ob (F_Model_holds R a0 x5 (x2 / (4 : Int32)) I) (fun v60 => (if v60 = 0 then B_Model_waits_70 R I (B_Model_waits_14 R I f) a0 x1 x2 x3 x4 x5 else B_Model_waits_71 R I (B_Model_waits_14 R I f) a0 x1 x2 x3 x4 x5 (1 : Int32)))) else B_Model_waits_70 R I (B_Model_waits_14 R I f) a0 x1 x2 x3 x4 x5))) else B_Model_waits_70 R I (B_Model_waits_14 R I f) a0 x1 x2 x3 x4 x5)))))
set_option maxHeartbeats 4000000 in
set_option maxRecDepth 100000 in
theorem b_Model_waits_14 {p : Program} {l : Launch} {e : Env} {s : State} {m : MethodId} {args : Array Value} {below : List Frame} {meth : Method} {c : Code} {g : Sg} {R : Nat → Nat → Nat} {I : St} {v : Int32} (cx : Cx p s m args meth c g R R_Model b_Model_waits 7 (some .boolean)) (f : Nat) : ∀ (a0 : Nat) (x1 : Int32) (x2 : Int32) (x3 : Int32) (x4 : Int32) (x5 : Int32) (H : Heap) (locs : List Loc) (ls : Array Slot), okA g 5 0 a0 → B_Model_waits_14 R I f a0 x1 x2 x3 x4 x5 = some v → wW g R I H → va_S (· ∈ g.L) s.heap H locs → lv_has ls 7 [(0, .ref a0), (1, .int x1), (2, .int x2), (3, .int x3), (4, .int x4), (5, .int x5)] → W p l e { frames := 5, cells := 0, slots := 0, locals := 110 } s m args below meth c H locs 0 0 (MQ below (Qi g R v I) args s 0 0 (· ∈ g.L)) (F0 m 14 ls []) := by
  have ⟨hx, hb, hml, hr, hlk, hown, hall, hT, hK⟩ := cx
  induction f with
  | zero => intro a0 x1 x2 x3 x4 x5 H locs ls o0 h; unfold B_Model_waits_14 at h; cases h
  | succ f ih =>
    intro a0 x1 x2 x3 x4 x5 H locs ls o0 h hP hS hl
    unfold B_Model_waits_14 at h
    refine lv_iload hx hb d_Model_waits_14 (lv_at hl 5 rfl) ?_
    refine lv_aload_n hx hb d_Model_waits_16 rfl (lv_at hl 0 rfl) ?_
    refine gg_get (C := R_Model) (T := F_Model) (N := 23) (ci := 5) hx hb hall i_Model hown hK hP o0.1 (wE_5 o0.2) rfl 16 (by decide) (hall _ m_419) (fun _ h9 => h9) rfl d_Model_waits_17 ?_
    refine lv_icmp_ge hx hb d_Model_waits_20 rfl (fun hc => ?_) (fun hc => ?_)
    · replace h := i_pos hc h
      refine lv_iload hx hb d_Model_waits_113 (lv_at hl 4 rfl) ?_
      obtain ⟨zk115, h⟩ := zck_el h
      obtain rfl := Option.some.inj h
      exact gg_zret hx hb hr hlk zk115 hK hP hS d_Model_waits_115
    · replace h := i_neg hc h
      refine lv_iload hx hb d_Model_waits_23 (lv_at hl 5 rfl) ?_
      refine lv_iload_n hx hb d_Model_waits_25 rfl (lv_at hl 1 rfl) ?_
      refine lv_icmp_ge hx hb d_Model_waits_26 rfl (fun hc => ?_) (fun hc => ?_)
      · replace h := i_pos hc h
        exact b_Model_waits_70 cx ih _ _ _ _ _ _ _ _ _ o0 h hP hS (lv_sub hl [0, 1, 2, 3, 4, 5] rfl)
      · replace h := i_neg hc h
        refine lv_aload_n hx hb d_Model_waits_29 rfl (lv_at hl 0 rfl) ?_
        refine gg_get (C := R_Model) (T := F_Model) (N := 23) (ci := 5) hx hb hall i_Model hown hK hP o0.1 (wE_5 o0.2) rfl 17 (by decide) (hall _ m_449) (fun _ h9 => h9) rfl d_Model_waits_30 ?_
        have o_30 : okA g 6 16 (R a0 17) := ty_Model_17 hT o0
        refine lv_iload hx hb d_Model_waits_33 (lv_at hl 5 rfl) ?_
        obtain ⟨hi35, h⟩ := chk_el h
        refine gg_iald hx hb hK hP o_30 hi35 d_Model_waits_35 ?_
        refine lv_if_ne hx hb d_Model_waits_36 rfl (fun hc => ?_) (fun hc => ?_)
        · replace h := i_neg hc h
          exact b_Model_waits_70 cx ih _ _ _ _ _ _ _ _ _ o0 h hP hS (lv_sub hl [0, 1, 2, 3, 4, 5] rfl)
        · replace h := i_pos hc h
          refine lv_aload_n hx hb d_Model_waits_39 rfl (lv_at hl 0 rfl) ?_
          refine gg_get (C := R_Model) (T := F_Model) (N := 23) (ci := 5) hx hb hall i_Model hown hK hP o0.1 (wE_5 o0.2) rfl 18 (by decide) (hall _ m_422) (fun _ h9 => h9) rfl d_Model_waits_40 ?_
          have o_40 : okA g 6 16 (R a0 18) := ty_Model_18 hT o0
          refine lv_iload hx hb d_Model_waits_43 (lv_at hl 5 rfl) ?_
          obtain ⟨hi45, h⟩ := chk_el h
          refine gg_iald hx hb hK hP o_40 hi45 d_Model_waits_45 ?_
          refine lv_iload_n hx hb d_Model_waits_46 rfl (lv_at hl 2 rfl) ?_
          refine lv_ishr hx hb d_Model_waits_47 ?_
          refine lv_iconst (v := 1) hx hb d_Model_waits_48 (by decide) ?_
          refine lv_iand hx hb d_Model_waits_49 ?_
          refine lv_iconst (v := 1) hx hb d_Model_waits_50 (by decide) ?_
          refine lv_icmp_ne hx hb d_Model_waits_51 rfl (fun hc => ?_) (fun hc => ?_)
          · replace h := i_neg hc h
            exact b_Model_waits_70 cx ih _ _ _ _ _ _ _ _ _ o0 h hP hS (lv_sub hl [0, 1, 2, 3, 4, 5] rfl)
          · replace h := i_pos hc h
            refine lv_aload_n hx hb d_Model_waits_54 rfl (lv_at hl 0 rfl) ?_
            refine lv_iload hx hb d_Model_waits_55 (lv_at hl 5 rfl) ?_
            refine lv_iload_n hx hb d_Model_waits_57 rfl (lv_at hl 2 rfl) ?_
            refine lv_iconst (v := 4) hx hb d_Model_waits_58 (by decide) ?_
            refine lv_idiv hx hb d_Model_waits_59 (by decide) ?_
            obtain ⟨v60, e60, h⟩ := ob_el h
            refine gg_Vi (As := [.int x5, .int (x2 / (4 : Int32))]) (rest := []) (ci := 5) (C := R_Model) (T := F_Model) (N := 23) ⟨hx, hb, hml, hown, hall⟩ (c_Model_holds l hT o0 e60) (cwV 2 hall (gV m_429 m_430 m_431 m_338 m_428) rfl rfl rfl (by decide +kernel) ⟨Nat.le_of_ble_eq_true rfl, Nat.le_of_ble_eq_true rfl⟩) hK hP hS o0.1 (wE_5 o0.2) rfl rfl hl.1 rfl (Nat.le_of_ble_eq_true rfl) d_Model_waits_60 (fun H locs hP hS => ?_)
            refine lv_if_eq hx hb d_Model_waits_63 rfl (fun hc => ?_) (fun hc => ?_)
            · replace h := i_pos hc h
              exact b_Model_waits_70 cx ih _ _ _ _ _ _ _ _ _ o0 h hP hS (lv_sub hl [0, 1, 2, 3, 4, 5] rfl)
            · replace h := i_neg hc h
              refine lv_iconst (v := 1) hx hb d_Model_waits_66 (by decide) ?_
              refine lv_goto hx hb d_Model_waits_67 rfl ?_
              exact b_Model_waits_71 cx ih _ _ _ _ _ _ _ _ _ _ o0 h hP hS (lv_sub hl [0, 1, 2, 3, 4, 5] rfl)
def F_Model_waits (R : Nat → Nat → Nat) (a0 : Nat) (x1 : Int32) (x2 : Int32) (I : St) : Option Int32 := (ob (F_Model_ready R a0 (x2 / (4 : Int32)) I) (fun v4 => B_Model_waits_14 R I 100 a0 x1 x2 v4 (0 : Int32) (0 : Int32)))
set_option maxHeartbeats 4000000 in
set_option maxRecDepth 100000 in
theorem c_Model_waits (l : Launch) {g : Sg} {R : Nat → Nat → Nat} (hT : Ty g R) {a0 : Nat} (o0 : okA g 5 0 a0) {x1 : Int32} {x2 : Int32} {I : St} {v : Int32} (h : F_Model_waits R a0 x1 x2 I = some v) : Cti l g R y_Model_waits w_Model_waits 5 110 [.ref a0, .int x1, .int x2] I v I := by
  unfold Cti
  refine Met.ofW (cc := b_Model_waits) (maxL := 7) (ret := (some .boolean)) (by decide) rfl ?_
  intro p e s m args below meth c s₁ B hml hv
  obtain ⟨rfl, hP, hK⟩ := hv
  have hts := atoms_spec (ws := w_Model_waits) B.pre
  have hall : ∀ w ∈ w_all, w.before _ s = true := fun w hw => hts w (List.mem_cons_of_mem _ hw)
  have hown : s.vm.findClass R_Model = some m.cls := findClass_of_methodNamed B.named
  have hx := B.exec
  have hb := B.bytes
  have hr := B.returns
  have hlk := B.notSynchronized
  have cx : Cx p s m _ meth c g R R_Model b_Model_waits 7 (some .boolean) := ⟨hx, hb, hml, hr, hlk, hown, hall, hT, hK⟩
  have hl := lv_entry ([.ref a0, .int x1, .int x2]) (n := 7) (Nat.le_of_ble_eq_true rfl)
  rw [lg_entry_eq]
  generalize (lg_sl ([.ref a0, .int x1, .int x2]) ++ List.replicate (7 - (lg_sl ([.ref a0, .int x1, .int x2])).length) Slot.unset).toArray = ls at hl ⊢
  have hl : lv_has ls 7 [(0, .ref a0), (1, .int x1), (2, .int x2)] := hl
  have hS : va_S (· ∈ g.L) s.heap s.heap [] := va_S.rf
  unfold F_Model_waits at h
  refine lv_aload_n hx hb d_Model_waits_0 rfl (lv_at hl 0 rfl) ?_
  refine lv_iload_n hx hb d_Model_waits_1 rfl (lv_at hl 2 rfl) ?_
  refine lv_iconst (v := 4) hx hb d_Model_waits_2 (by decide) ?_
  refine lv_idiv hx hb d_Model_waits_3 (by decide) ?_
  obtain ⟨v4, e4, h⟩ := ob_el h
  refine gg_Vi (As := [.int (x2 / (4 : Int32))]) (rest := []) (ci := 5) (C := R_Model) (T := F_Model) (N := 23) ⟨hx, hb, hml, hown, hall⟩ (c_Model_ready l hT o0 e4) (cwV 1 hall (gV m_360 m_361 m_362 m_338 m_359) rfl rfl rfl (by decide +kernel) ⟨Nat.le_of_ble_eq_true rfl, Nat.le_of_ble_eq_true rfl⟩) hK hP hS o0.1 (wE_5 o0.2) rfl rfl hl.1 rfl (Nat.le_of_ble_eq_true rfl) d_Model_waits_4 (fun H locs hP hS => ?_)
  refine lv_istore_n (lv' := [(3, .int v4), (0, .ref a0), (1, .int x1), (2, .int x2)]) hx hb d_Model_waits_7 rfl hl (Nat.le_of_ble_eq_true rfl) rfl (fun ls hl => ?_)
  refine lv_iconst (v := 0) hx hb d_Model_waits_8 (by decide) ?_
  refine lv_istore (lv' := [(4, .int (0 : Int32)), (3, .int v4), (0, .ref a0), (1, .int x1), (2, .int x2)]) hx hb d_Model_waits_9 hl (Nat.le_of_ble_eq_true rfl) rfl (fun ls hl => ?_)
  refine lv_iconst (v := 0) hx hb d_Model_waits_11 (by decide) ?_
  refine lv_istore (lv' := [(5, .int (0 : Int32)), (4, .int (0 : Int32)), (3, .int v4), (0, .ref a0), (1, .int x1), (2, .int x2)]) hx hb d_Model_waits_12 hl (Nat.le_of_ble_eq_true rfl) rfl (fun ls hl => ?_)
  exact b_Model_waits_14 cx 100 _ _ _ _ _ _ _ _ _ o0 h hP hS (lv_sub hl [3, 4, 5, 2, 1, 0] rfl)
abbrev b_Model_blocked : ByteArray := prog_7_method_39_code
def y_Model_blocked : MethodName := ⟨"StampedStoreModel", "blocked", "(I)I"⟩
def w_Model_blocked : List Cond := .code y_Model_blocked b_Model_blocked 7 (some .int) :: w_all
theorem d_Model_blocked_0 : decode b_Model_blocked 0 = .ok (.iconst 0, 1) := by decide +kernel
theorem d_Model_blocked_1 : decode b_Model_blocked 1 = .ok (.istore_n 2, 1) := by decide +kernel
theorem d_Model_blocked_2 : decode b_Model_blocked 2 = .ok (.iconst 0, 1) := by decide +kernel
theorem d_Model_blocked_3 : decode b_Model_blocked 3 = .ok (.istore_n 3, 1) := by decide +kernel
theorem d_Model_blocked_4 : decode b_Model_blocked 4 = .ok (.iconst 0, 1) := by decide +kernel
theorem d_Model_blocked_5 : decode b_Model_blocked 5 = .ok (.istore 4, 2) := by decide +kernel
theorem d_Model_blocked_7 : decode b_Model_blocked 7 = .ok (.iload 4, 2) := by decide +kernel
theorem d_Model_blocked_9 : decode b_Model_blocked 9 = .ok (.iconst 2, 1) := by decide +kernel
theorem d_Model_blocked_10 : decode b_Model_blocked 10 = .ok (.if_icmp .ge 69, 3) := by decide +kernel
theorem d_Model_blocked_13 : decode b_Model_blocked 13 = .ok (.aload_n 0, 1) := by decide +kernel
theorem d_Model_blocked_14 : decode b_Model_blocked 14 = .ok (.iload_n 1, 1) := by decide +kernel
theorem d_Model_blocked_15 : decode b_Model_blocked 15 = .ok (.iload 4, 2) := by decide +kernel
theorem d_Model_blocked_17 : decode b_Model_blocked 17 = .ok (.invokevirtual 159, 3) := by decide +kernel
theorem d_Model_blocked_20 : decode b_Model_blocked 20 = .ok (.ifCond .eq 53, 3) := by decide +kernel
theorem d_Model_blocked_23 : decode b_Model_blocked 23 = .ok (.aload_n 0, 1) := by decide +kernel
theorem d_Model_blocked_24 : decode b_Model_blocked 24 = .ok (.iload 4, 2) := by decide +kernel
theorem d_Model_blocked_26 : decode b_Model_blocked 26 = .ok (.invokevirtual 93, 3) := by decide +kernel
theorem d_Model_blocked_29 : decode b_Model_blocked 29 = .ok (.istore 5, 2) := by decide +kernel
theorem d_Model_blocked_31 : decode b_Model_blocked 31 = .ok (.aload_n 0, 1) := by decide +kernel
theorem d_Model_blocked_32 : decode b_Model_blocked 32 = .ok (.iload 5, 2) := by decide +kernel
theorem d_Model_blocked_34 : decode b_Model_blocked 34 = .ok (.aload_n 0, 1) := by decide +kernel
theorem d_Model_blocked_35 : decode b_Model_blocked 35 = .ok (.iload 5, 2) := by decide +kernel
theorem d_Model_blocked_37 : decode b_Model_blocked 37 = .ok (.invokevirtual 118, 3) := by decide +kernel
theorem d_Model_blocked_40 : decode b_Model_blocked 40 = .ok (.invokevirtual 121, 3) := by decide +kernel
theorem d_Model_blocked_43 : decode b_Model_blocked 43 = .ok (.istore 6, 2) := by decide +kernel
theorem d_Model_blocked_45 : decode b_Model_blocked 45 = .ok (.iload 6, 2) := by decide +kernel
theorem d_Model_blocked_47 : decode b_Model_blocked 47 = .ok (.bipush (-6), 2) := by decide +kernel
theorem d_Model_blocked_49 : decode b_Model_blocked 49 = .ok (.if_icmp .ne 8, 3) := by decide +kernel
theorem d_Model_blocked_52 : decode b_Model_blocked 52 = .ok (.bipush (-6), 2) := by decide +kernel
theorem d_Model_blocked_54 : decode b_Model_blocked 54 = .ok (.goto 4, 3) := by decide +kernel
theorem d_Model_blocked_57 : decode b_Model_blocked 57 = .ok (.iload_n 2, 1) := by decide +kernel
theorem d_Model_blocked_58 : decode b_Model_blocked 58 = .ok (.istore_n 2, 1) := by decide +kernel
theorem d_Model_blocked_59 : decode b_Model_blocked 59 = .ok (.iload 6, 2) := by decide +kernel
theorem d_Model_blocked_61 : decode b_Model_blocked 61 = .ok (.bipush (-7), 2) := by decide +kernel
theorem d_Model_blocked_63 : decode b_Model_blocked 63 = .ok (.if_icmp .ne 8, 3) := by decide +kernel
theorem d_Model_blocked_66 : decode b_Model_blocked 66 = .ok (.bipush (-7), 2) := by decide +kernel
theorem d_Model_blocked_68 : decode b_Model_blocked 68 = .ok (.goto 4, 3) := by decide +kernel
theorem d_Model_blocked_71 : decode b_Model_blocked 71 = .ok (.iload_n 3, 1) := by decide +kernel
theorem d_Model_blocked_72 : decode b_Model_blocked 72 = .ok (.istore_n 3, 1) := by decide +kernel
theorem d_Model_blocked_73 : decode b_Model_blocked 73 = .ok (.iinc 4 1, 3) := by decide +kernel
theorem d_Model_blocked_76 : decode b_Model_blocked 76 = .ok (.goto (-69), 3) := by decide +kernel
theorem d_Model_blocked_79 : decode b_Model_blocked 79 = .ok (.iload_n 2, 1) := by decide +kernel
theorem d_Model_blocked_80 : decode b_Model_blocked 80 = .ok (.ifCond .ge 7, 3) := by decide +kernel
theorem d_Model_blocked_83 : decode b_Model_blocked 83 = .ok (.iload_n 2, 1) := by decide +kernel
theorem d_Model_blocked_84 : decode b_Model_blocked 84 = .ok (.goto 4, 3) := by decide +kernel
theorem d_Model_blocked_87 : decode b_Model_blocked 87 = .ok (.iload_n 3, 1) := by decide +kernel
theorem d_Model_blocked_88 : decode b_Model_blocked 88 = .ok (.ireturn, 1) := by decide +kernel
def B_Model_blocked_73 (R : Nat → Nat → Nat) (I : St) (k7 : Nat → Int32 → Int32 → Int32 → Int32 → Option Int32) (a0 : Nat) (x1 : Int32) (x2 : Int32) (x3 : Int32) (x4 : Int32) : Option Int32 := k7 a0 x1 x2 x3 (x4 + 1)
set_option maxHeartbeats 4000000 in
set_option maxRecDepth 100000 in
theorem b_Model_blocked_73 {p : Program} {l : Launch} {e : Env} {s : State} {m : MethodId} {args : Array Value} {below : List Frame} {meth : Method} {c : Code} {g : Sg} {R : Nat → Nat → Nat} {I : St} {v : Int32} (cx : Cx p s m args meth c g R R_Model b_Model_blocked 7 (some .int)) {k7 : Nat → Int32 → Int32 → Int32 → Int32 → Option Int32} (hk7 : ∀ (a0 : Nat) (x1 : Int32) (x2 : Int32) (x3 : Int32) (x4 : Int32) (H : Heap) (locs : List Loc) (ls : Array Slot), okA g 5 0 a0 → k7 a0 x1 x2 x3 x4 = some v → wW g R I H → va_S (· ∈ g.L) s.heap H locs → lv_has ls 7 [(0, .ref a0), (1, .int x1), (2, .int x2), (3, .int x3), (4, .int x4)] → W p l e { frames := 4, cells := 0, slots := 0, locals := 87 } s m args below meth c H locs 0 0 (MQ below (Qi g R v I) args s 0 0 (· ∈ g.L)) (F0 m 7 ls [])) : ∀ (a0 : Nat) (x1 : Int32) (x2 : Int32) (x3 : Int32) (x4 : Int32) (H : Heap) (locs : List Loc) (ls : Array Slot), okA g 5 0 a0 → B_Model_blocked_73 R I k7 a0 x1 x2 x3 x4 = some v → wW g R I H → va_S (· ∈ g.L) s.heap H locs → lv_has ls 7 [(0, .ref a0), (1, .int x1), (2, .int x2), (3, .int x3), (4, .int x4)] → W p l e { frames := 4, cells := 0, slots := 0, locals := 87 } s m args below meth c H locs 0 0 (MQ below (Qi g R v I) args s 0 0 (· ∈ g.L)) (F0 m 73 ls []) := by
  have ⟨hx, hb, hml, hr, hlk, hown, hall, hT, hK⟩ := cx
  intro a0 x1 x2 x3 x4 H locs ls o0 h hP hS hl
  unfold B_Model_blocked_73 at h
  refine lv_iinc (k := 4) (v := (x4 + 1)) (lv' := [(4, .int (x4 + 1)), (0, .ref a0), (1, .int x1), (2, .int x2), (3, .int x3)]) hx hb d_Model_blocked_73 hl rfl (by rw [show Int32.ofInt 1 = (1 : Int32) from by decide]) (Nat.le_of_ble_eq_true rfl) rfl (fun ls hl => ?_)
  refine lv_goto hx hb d_Model_blocked_76 rfl ?_
  exact hk7 _ _ _ _ _ _ _ _ o0 h hP hS (lv_sub hl [1, 2, 3, 4, 0] rfl)
def B_Model_blocked_72 (R : Nat → Nat → Nat) (I : St) (k7 : Nat → Int32 → Int32 → Int32 → Int32 → Option Int32) (a0 : Nat) (x1 : Int32) (x2 : Int32) (x4 : Int32) (t0 : Int32) : Option Int32 := B_Model_blocked_73 R I k7 a0 x1 x2 t0 x4
set_option maxHeartbeats 4000000 in
set_option maxRecDepth 100000 in
theorem b_Model_blocked_72 {p : Program} {l : Launch} {e : Env} {s : State} {m : MethodId} {args : Array Value} {below : List Frame} {meth : Method} {c : Code} {g : Sg} {R : Nat → Nat → Nat} {I : St} {v : Int32} (cx : Cx p s m args meth c g R R_Model b_Model_blocked 7 (some .int)) {k7 : Nat → Int32 → Int32 → Int32 → Int32 → Option Int32} (hk7 : ∀ (a0 : Nat) (x1 : Int32) (x2 : Int32) (x3 : Int32) (x4 : Int32) (H : Heap) (locs : List Loc) (ls : Array Slot), okA g 5 0 a0 → k7 a0 x1 x2 x3 x4 = some v → wW g R I H → va_S (· ∈ g.L) s.heap H locs → lv_has ls 7 [(0, .ref a0), (1, .int x1), (2, .int x2), (3, .int x3), (4, .int x4)] → W p l e { frames := 4, cells := 0, slots := 0, locals := 87 } s m args below meth c H locs 0 0 (MQ below (Qi g R v I) args s 0 0 (· ∈ g.L)) (F0 m 7 ls [])) : ∀ (a0 : Nat) (x1 : Int32) (x2 : Int32) (x4 : Int32) (t0 : Int32) (H : Heap) (locs : List Loc) (ls : Array Slot), okA g 5 0 a0 → B_Model_blocked_72 R I k7 a0 x1 x2 x4 t0 = some v → wW g R I H → va_S (· ∈ g.L) s.heap H locs → lv_has ls 7 [(0, .ref a0), (1, .int x1), (2, .int x2), (4, .int x4)] → W p l e { frames := 4, cells := 0, slots := 0, locals := 87 } s m args below meth c H locs 0 0 (MQ below (Qi g R v I) args s 0 0 (· ∈ g.L)) (F0 m 72 ls [.int t0]) := by
  have ⟨hx, hb, hml, hr, hlk, hown, hall, hT, hK⟩ := cx
  intro a0 x1 x2 x4 t0 H locs ls o0 h hP hS hl
  unfold B_Model_blocked_72 at h
  refine lv_istore_n (lv' := [(3, .int t0), (0, .ref a0), (1, .int x1), (2, .int x2), (4, .int x4)]) hx hb d_Model_blocked_72 rfl hl (Nat.le_of_ble_eq_true rfl) rfl (fun ls hl => ?_)
  exact b_Model_blocked_73 cx hk7 _ _ _ _ _ _ _ _ o0 h hP hS (lv_sub hl [1, 2, 3, 0, 4] rfl)
def B_Model_blocked_58 (R : Nat → Nat → Nat) (I : St) (k7 : Nat → Int32 → Int32 → Int32 → Int32 → Option Int32) (a0 : Nat) (x1 : Int32) (x3 : Int32) (x4 : Int32) (x6 : Int32) (t0 : Int32) : Option Int32 := (if x6 = (-7 : Int32) then B_Model_blocked_72 R I k7 a0 x1 t0 x4 (-7 : Int32) else B_Model_blocked_72 R I k7 a0 x1 t0 x4 x3)
set_option maxHeartbeats 4000000 in
set_option maxRecDepth 100000 in
theorem b_Model_blocked_58 {p : Program} {l : Launch} {e : Env} {s : State} {m : MethodId} {args : Array Value} {below : List Frame} {meth : Method} {c : Code} {g : Sg} {R : Nat → Nat → Nat} {I : St} {v : Int32} (cx : Cx p s m args meth c g R R_Model b_Model_blocked 7 (some .int)) {k7 : Nat → Int32 → Int32 → Int32 → Int32 → Option Int32} (hk7 : ∀ (a0 : Nat) (x1 : Int32) (x2 : Int32) (x3 : Int32) (x4 : Int32) (H : Heap) (locs : List Loc) (ls : Array Slot), okA g 5 0 a0 → k7 a0 x1 x2 x3 x4 = some v → wW g R I H → va_S (· ∈ g.L) s.heap H locs → lv_has ls 7 [(0, .ref a0), (1, .int x1), (2, .int x2), (3, .int x3), (4, .int x4)] → W p l e { frames := 4, cells := 0, slots := 0, locals := 87 } s m args below meth c H locs 0 0 (MQ below (Qi g R v I) args s 0 0 (· ∈ g.L)) (F0 m 7 ls [])) : ∀ (a0 : Nat) (x1 : Int32) (x3 : Int32) (x4 : Int32) (x6 : Int32) (t0 : Int32) (H : Heap) (locs : List Loc) (ls : Array Slot), okA g 5 0 a0 → B_Model_blocked_58 R I k7 a0 x1 x3 x4 x6 t0 = some v → wW g R I H → va_S (· ∈ g.L) s.heap H locs → lv_has ls 7 [(0, .ref a0), (1, .int x1), (3, .int x3), (4, .int x4), (6, .int x6)] → W p l e { frames := 4, cells := 0, slots := 0, locals := 87 } s m args below meth c H locs 0 0 (MQ below (Qi g R v I) args s 0 0 (· ∈ g.L)) (F0 m 58 ls [.int t0]) := by
  have ⟨hx, hb, hml, hr, hlk, hown, hall, hT, hK⟩ := cx
  intro a0 x1 x3 x4 x6 t0 H locs ls o0 h hP hS hl
  unfold B_Model_blocked_58 at h
  refine lv_istore_n (lv' := [(2, .int t0), (0, .ref a0), (1, .int x1), (3, .int x3), (4, .int x4), (6, .int x6)]) hx hb d_Model_blocked_58 rfl hl (Nat.le_of_ble_eq_true rfl) rfl (fun ls hl => ?_)
  refine lv_iload hx hb d_Model_blocked_59 (lv_at hl 5 rfl) ?_
  refine lv_bipush (v := (-7)) hx hb d_Model_blocked_61 (by decide) ?_
  refine lv_icmp_ne hx hb d_Model_blocked_63 rfl (fun hc => ?_) (fun hc => ?_)
  · replace h := i_neg hc h
    refine lv_iload_n hx hb d_Model_blocked_71 rfl (lv_at hl 3 rfl) ?_
    exact b_Model_blocked_72 cx hk7 _ _ _ _ _ _ _ _ o0 h hP hS (lv_sub hl [1, 2, 0, 4] rfl)
  · replace h := i_pos hc h
    refine lv_bipush (v := (-7)) hx hb d_Model_blocked_66 (by decide) ?_
    refine lv_goto hx hb d_Model_blocked_68 rfl ?_
    exact b_Model_blocked_72 cx hk7 _ _ _ _ _ _ _ _ o0 h hP hS (lv_sub hl [1, 2, 0, 4] rfl)
def B_Model_blocked_7 (R : Nat → Nat → Nat) (I : St) : Nat → Nat → Int32 → Int32 → Int32 → Int32 → Option Int32
  | 0, _, _, _, _, _ => none
  | f + 1, a0, x1, x2, x3, x4 => (if (2 : Int32) ≤ x4 then (if 0 ≤ x2 then some x3 else some x2) else (ob (F_Model_touches R a0 x1 x4 I) (fun v17 => (if v17 = 0 then B_Model_blocked_73 R I (B_Model_blocked_7 R I f) a0 x1 x2 x3 x4 else (ob (F_Model_ready R a0 x4 I) (fun v26 => (ob (F_Model_next R a0 v26 I) (fun v37 => (ob (F_Model_bars R a0 v26 v37 I) (fun v40 => (if v40 = (-6 : Int32) then B_Model_blocked_58 R I (B_Model_blocked_7 R I f) a0 x1 x3 x4 v40 (-6 : Int32) else B_Model_blocked_58 R I (B_Model_blocked_7 R I f) a0 x1 x3 x4 v40 x2)))))))))))
set_option maxHeartbeats 4000000 in
set_option maxRecDepth 100000 in
theorem b_Model_blocked_7 {p : Program} {l : Launch} {e : Env} {s : State} {m : MethodId} {args : Array Value} {below : List Frame} {meth : Method} {c : Code} {g : Sg} {R : Nat → Nat → Nat} {I : St} {v : Int32} (cx : Cx p s m args meth c g R R_Model b_Model_blocked 7 (some .int)) (f : Nat) : ∀ (a0 : Nat) (x1 : Int32) (x2 : Int32) (x3 : Int32) (x4 : Int32) (H : Heap) (locs : List Loc) (ls : Array Slot), okA g 5 0 a0 → B_Model_blocked_7 R I f a0 x1 x2 x3 x4 = some v → wW g R I H → va_S (· ∈ g.L) s.heap H locs → lv_has ls 7 [(0, .ref a0), (1, .int x1), (2, .int x2), (3, .int x3), (4, .int x4)] → W p l e { frames := 4, cells := 0, slots := 0, locals := 87 } s m args below meth c H locs 0 0 (MQ below (Qi g R v I) args s 0 0 (· ∈ g.L)) (F0 m 7 ls []) := by
  have ⟨hx, hb, hml, hr, hlk, hown, hall, hT, hK⟩ := cx
  induction f with
  | zero => intro a0 x1 x2 x3 x4 H locs ls o0 h; unfold B_Model_blocked_7 at h; cases h
  | succ f ih =>
    intro a0 x1 x2 x3 x4 H locs ls o0 h hP hS hl
    unfold B_Model_blocked_7 at h
    refine lv_iload hx hb d_Model_blocked_7 (lv_at hl 4 rfl) ?_
    refine lv_iconst (v := 2) hx hb d_Model_blocked_9 (by decide) ?_
    refine lv_icmp_ge hx hb d_Model_blocked_10 rfl (fun hc => ?_) (fun hc => ?_)
    · replace h := i_pos hc h
      refine lv_iload_n hx hb d_Model_blocked_79 rfl (lv_at hl 2 rfl) ?_
      refine lv_if_ge hx hb d_Model_blocked_80 rfl (fun hc => ?_) (fun hc => ?_)
      · replace h := i_pos hc h
        refine lv_iload_n hx hb d_Model_blocked_87 rfl (lv_at hl 3 rfl) ?_
        obtain rfl := Option.some.inj h
        exact gg_iret hx hb hr hlk hK hP hS d_Model_blocked_88
      · replace h := i_neg hc h
        refine lv_iload_n hx hb d_Model_blocked_83 rfl (lv_at hl 2 rfl) ?_
        refine lv_goto hx hb d_Model_blocked_84 rfl ?_
        obtain rfl := Option.some.inj h
        exact gg_iret hx hb hr hlk hK hP hS d_Model_blocked_88
    · replace h := i_neg hc h
      refine lv_aload_n hx hb d_Model_blocked_13 rfl (lv_at hl 0 rfl) ?_
      refine lv_iload_n hx hb d_Model_blocked_14 rfl (lv_at hl 1 rfl) ?_
      refine lv_iload hx hb d_Model_blocked_15 (lv_at hl 4 rfl) ?_
      obtain ⟨v17, e17, h⟩ := ob_el h
      refine gg_Vi (As := [.int x1, .int x4]) (rest := []) (ci := 5) (C := R_Model) (T := F_Model) (N := 23) ⟨hx, hb, hml, hown, hall⟩ (c_Model_touches l hT o0 e17) (cwV 2 hall (gV m_456 m_457 m_458 m_338 m_426) rfl rfl rfl (by decide +kernel) ⟨Nat.le_of_ble_eq_true rfl, Nat.le_of_ble_eq_true rfl⟩) hK hP hS o0.1 (wE_5 o0.2) rfl rfl hl.1 rfl (Nat.le_of_ble_eq_true rfl) d_Model_blocked_17 (fun H locs hP hS => ?_)
      refine lv_if_eq hx hb d_Model_blocked_20 rfl (fun hc => ?_) (fun hc => ?_)
      · replace h := i_pos hc h
        exact b_Model_blocked_73 cx ih _ _ _ _ _ _ _ _ o0 h hP hS (lv_sub hl [0, 1, 2, 3, 4] rfl)
      · replace h := i_neg hc h
        refine lv_aload_n hx hb d_Model_blocked_23 rfl (lv_at hl 0 rfl) ?_
        refine lv_iload hx hb d_Model_blocked_24 (lv_at hl 4 rfl) ?_
        obtain ⟨v26, e26, h⟩ := ob_el h
        refine gg_Vi (As := [.int x4]) (rest := []) (ci := 5) (C := R_Model) (T := F_Model) (N := 23) ⟨hx, hb, hml, hown, hall⟩ (c_Model_ready l hT o0 e26) (cwV 1 hall (gV m_360 m_361 m_362 m_338 m_359) rfl rfl rfl (by decide +kernel) ⟨Nat.le_of_ble_eq_true rfl, Nat.le_of_ble_eq_true rfl⟩) hK hP hS o0.1 (wE_5 o0.2) rfl rfl hl.1 rfl (Nat.le_of_ble_eq_true rfl) d_Model_blocked_26 (fun H locs hP hS => ?_)
        refine lv_istore (lv' := [(5, .int v26), (0, .ref a0), (1, .int x1), (2, .int x2), (3, .int x3), (4, .int x4)]) hx hb d_Model_blocked_29 hl (Nat.le_of_ble_eq_true rfl) rfl (fun ls hl => ?_)
        refine lv_aload_n hx hb d_Model_blocked_31 rfl (lv_at hl 1 rfl) ?_
        refine lv_iload hx hb d_Model_blocked_32 (lv_at hl 0 rfl) ?_
        refine lv_aload_n hx hb d_Model_blocked_34 rfl (lv_at hl 1 rfl) ?_
        refine lv_iload hx hb d_Model_blocked_35 (lv_at hl 0 rfl) ?_
        obtain ⟨v37, e37, h⟩ := ob_el h
        refine gg_Vi (As := [.int v26]) (rest := [.int v26, .ref a0]) (ci := 5) (C := R_Model) (T := F_Model) (N := 23) ⟨hx, hb, hml, hown, hall⟩ (c_Model_next l hT o0 e37) (cwV 1 hall (gV m_390 m_391 m_392 m_338 m_368) rfl rfl rfl (by decide +kernel) ⟨Nat.le_of_ble_eq_true rfl, Nat.le_of_ble_eq_true rfl⟩) hK hP hS o0.1 (wE_5 o0.2) rfl rfl hl.1 rfl (Nat.le_of_ble_eq_true rfl) d_Model_blocked_37 (fun H locs hP hS => ?_)
        obtain ⟨v40, e40, h⟩ := ob_el h
        refine gg_Vi (As := [.int v26, .int v37]) (rest := []) (ci := 5) (C := R_Model) (T := F_Model) (N := 23) ⟨hx, hb, hml, hown, hall⟩ (c_Model_bars l hT o0 e40) (cwV 2 hall (gV m_393 m_394 m_395 m_338 m_369) rfl rfl rfl (by decide +kernel) ⟨Nat.le_of_ble_eq_true rfl, Nat.le_of_ble_eq_true rfl⟩) hK hP hS o0.1 (wE_5 o0.2) rfl rfl hl.1 rfl (Nat.le_of_ble_eq_true rfl) d_Model_blocked_40 (fun H locs hP hS => ?_)
        refine lv_istore (lv' := [(6, .int v40), (5, .int v26), (0, .ref a0), (1, .int x1), (2, .int x2), (3, .int x3), (4, .int x4)]) hx hb d_Model_blocked_43 hl (Nat.le_of_ble_eq_true rfl) rfl (fun ls hl => ?_)
        refine lv_iload hx hb d_Model_blocked_45 (lv_at hl 0 rfl) ?_
        refine lv_bipush (v := (-6)) hx hb d_Model_blocked_47 (by decide) ?_
        refine lv_icmp_ne hx hb d_Model_blocked_49 rfl (fun hc => ?_) (fun hc => ?_)
        · replace h := i_neg hc h
          refine lv_iload_n hx hb d_Model_blocked_57 rfl (lv_at hl 4 rfl) ?_
          exact b_Model_blocked_58 cx ih _ _ _ _ _ _ _ _ _ o0 h hP hS (lv_sub hl [2, 3, 5, 6, 0] rfl)
        · replace h := i_pos hc h
          refine lv_bipush (v := (-6)) hx hb d_Model_blocked_52 (by decide) ?_
          refine lv_goto hx hb d_Model_blocked_54 rfl ?_
          exact b_Model_blocked_58 cx ih _ _ _ _ _ _ _ _ _ o0 h hP hS (lv_sub hl [2, 3, 5, 6, 0] rfl)
def F_Model_blocked (R : Nat → Nat → Nat) (a0 : Nat) (x1 : Int32) (I : St) : Option Int32 := B_Model_blocked_7 R I 100 a0 x1 (0 : Int32) (0 : Int32) (0 : Int32)
set_option maxHeartbeats 4000000 in
set_option maxRecDepth 100000 in
theorem c_Model_blocked (l : Launch) {g : Sg} {R : Nat → Nat → Nat} (hT : Ty g R) {a0 : Nat} (o0 : okA g 5 0 a0) {x1 : Int32} {I : St} {v : Int32} (h : F_Model_blocked R a0 x1 I = some v) : Cti l g R y_Model_blocked w_Model_blocked 4 87 [.ref a0, .int x1] I v I := by
  unfold Cti
  refine Met.ofW (cc := b_Model_blocked) (maxL := 7) (ret := (some .int)) (by decide) rfl ?_
  intro p e s m args below meth c s₁ B hml hv
  obtain ⟨rfl, hP, hK⟩ := hv
  have hts := atoms_spec (ws := w_Model_blocked) B.pre
  have hall : ∀ w ∈ w_all, w.before _ s = true := fun w hw => hts w (List.mem_cons_of_mem _ hw)
  have hown : s.vm.findClass R_Model = some m.cls := findClass_of_methodNamed B.named
  have hx := B.exec
  have hb := B.bytes
  have hr := B.returns
  have hlk := B.notSynchronized
  have cx : Cx p s m _ meth c g R R_Model b_Model_blocked 7 (some .int) := ⟨hx, hb, hml, hr, hlk, hown, hall, hT, hK⟩
  have hl := lv_entry ([.ref a0, .int x1]) (n := 7) (Nat.le_of_ble_eq_true rfl)
  rw [lg_entry_eq]
  generalize (lg_sl ([.ref a0, .int x1]) ++ List.replicate (7 - (lg_sl ([.ref a0, .int x1])).length) Slot.unset).toArray = ls at hl ⊢
  have hl : lv_has ls 7 [(0, .ref a0), (1, .int x1)] := hl
  have hS : va_S (· ∈ g.L) s.heap s.heap [] := va_S.rf
  unfold F_Model_blocked at h
  refine lv_iconst (v := 0) hx hb d_Model_blocked_0 (by decide) ?_
  refine lv_istore_n (lv' := [(2, .int (0 : Int32)), (0, .ref a0), (1, .int x1)]) hx hb d_Model_blocked_1 rfl hl (Nat.le_of_ble_eq_true rfl) rfl (fun ls hl => ?_)
  refine lv_iconst (v := 0) hx hb d_Model_blocked_2 (by decide) ?_
  refine lv_istore_n (lv' := [(3, .int (0 : Int32)), (2, .int (0 : Int32)), (0, .ref a0), (1, .int x1)]) hx hb d_Model_blocked_3 rfl hl (Nat.le_of_ble_eq_true rfl) rfl (fun ls hl => ?_)
  refine lv_iconst (v := 0) hx hb d_Model_blocked_4 (by decide) ?_
  refine lv_istore (lv' := [(4, .int (0 : Int32)), (3, .int (0 : Int32)), (2, .int (0 : Int32)), (0, .ref a0), (1, .int x1)]) hx hb d_Model_blocked_5 hl (Nat.le_of_ble_eq_true rfl) rfl (fun ls hl => ?_)
  exact b_Model_blocked_7 cx 100 _ _ _ _ _ _ _ _ o0 h hP hS (lv_sub hl [3, 4, 2, 1, 0] rfl)
abbrev b_Model_clashes : ByteArray := prog_7_method_41_code
def y_Model_clashes : MethodName := ⟨"StampedStoreModel", "clashes", "(II)Z"⟩
def w_Model_clashes : List Cond := .code y_Model_clashes b_Model_clashes 5 (some .boolean) :: w_all
theorem d_Model_clashes_0 : decode b_Model_clashes 0 = .ok (.iconst 0, 1) := by decide +kernel
theorem d_Model_clashes_1 : decode b_Model_clashes 1 = .ok (.istore_n 3, 1) := by decide +kernel
theorem d_Model_clashes_2 : decode b_Model_clashes 2 = .ok (.iconst 0, 1) := by decide +kernel
theorem d_Model_clashes_3 : decode b_Model_clashes 3 = .ok (.istore 4, 2) := by decide +kernel
theorem d_Model_clashes_5 : decode b_Model_clashes 5 = .ok (.iload 4, 2) := by decide +kernel
theorem d_Model_clashes_7 : decode b_Model_clashes 7 = .ok (.iconst 2, 1) := by decide +kernel
theorem d_Model_clashes_8 : decode b_Model_clashes 8 = .ok (.if_icmp .ge 51, 3) := by decide +kernel
theorem d_Model_clashes_11 : decode b_Model_clashes 11 = .ok (.iload_n 3, 1) := by decide +kernel
theorem d_Model_clashes_12 : decode b_Model_clashes 12 = .ok (.ifCond .ne 35, 3) := by decide +kernel
theorem d_Model_clashes_15 : decode b_Model_clashes 15 = .ok (.aload_n 0, 1) := by decide +kernel
theorem d_Model_clashes_16 : decode b_Model_clashes 16 = .ok (.getfield 56, 3) := by decide +kernel
theorem d_Model_clashes_19 : decode b_Model_clashes 19 = .ok (.iload_n 1, 1) := by decide +kernel
theorem d_Model_clashes_20 : decode b_Model_clashes 20 = .ok (.iaload, 1) := by decide +kernel
theorem d_Model_clashes_21 : decode b_Model_clashes 21 = .ok (.aload_n 0, 1) := by decide +kernel
theorem d_Model_clashes_22 : decode b_Model_clashes 22 = .ok (.getfield 59, 3) := by decide +kernel
theorem d_Model_clashes_25 : decode b_Model_clashes 25 = .ok (.iload_n 2, 1) := by decide +kernel
theorem d_Model_clashes_26 : decode b_Model_clashes 26 = .ok (.iaload, 1) := by decide +kernel
theorem d_Model_clashes_27 : decode b_Model_clashes 27 = .ok (.iand, 1) := by decide +kernel
theorem d_Model_clashes_28 : decode b_Model_clashes 28 = .ok (.iload 4, 2) := by decide +kernel
theorem d_Model_clashes_30 : decode b_Model_clashes 30 = .ok (.invokestatic 138, 3) := by decide +kernel
theorem d_Model_clashes_33 : decode b_Model_clashes 33 = .ok (.iand, 1) := by decide +kernel
theorem d_Model_clashes_34 : decode b_Model_clashes 34 = .ok (.ifCond .eq 17, 3) := by decide +kernel
theorem d_Model_clashes_37 : decode b_Model_clashes 37 = .ok (.aload_n 0, 1) := by decide +kernel
theorem d_Model_clashes_38 : decode b_Model_clashes 38 = .ok (.iload_n 1, 1) := by decide +kernel
theorem d_Model_clashes_39 : decode b_Model_clashes 39 = .ok (.iload 4, 2) := by decide +kernel
theorem d_Model_clashes_41 : decode b_Model_clashes 41 = .ok (.invokevirtual 141, 3) := by decide +kernel
theorem d_Model_clashes_44 : decode b_Model_clashes 44 = .ok (.ifCond .eq 7, 3) := by decide +kernel
theorem d_Model_clashes_47 : decode b_Model_clashes 47 = .ok (.iconst 1, 1) := by decide +kernel
theorem d_Model_clashes_48 : decode b_Model_clashes 48 = .ok (.goto 4, 3) := by decide +kernel
theorem d_Model_clashes_51 : decode b_Model_clashes 51 = .ok (.iconst 0, 1) := by decide +kernel
theorem d_Model_clashes_52 : decode b_Model_clashes 52 = .ok (.istore_n 3, 1) := by decide +kernel
theorem d_Model_clashes_53 : decode b_Model_clashes 53 = .ok (.iinc 4 1, 3) := by decide +kernel
theorem d_Model_clashes_56 : decode b_Model_clashes 56 = .ok (.goto (-51), 3) := by decide +kernel
theorem d_Model_clashes_59 : decode b_Model_clashes 59 = .ok (.iload_n 3, 1) := by decide +kernel
theorem d_Model_clashes_60 : decode b_Model_clashes 60 = .ok (.ireturn, 1) := by decide +kernel
def B_Model_clashes_52 (R : Nat → Nat → Nat) (I : St) (k5 : Nat → Int32 → Int32 → Int32 → Int32 → Option Int32) (a0 : Nat) (x1 : Int32) (x2 : Int32) (x4 : Int32) (t0 : Int32) : Option Int32 := k5 a0 x1 x2 t0 (x4 + 1)
set_option maxHeartbeats 4000000 in
set_option maxRecDepth 100000 in
theorem b_Model_clashes_52 {p : Program} {l : Launch} {e : Env} {s : State} {m : MethodId} {args : Array Value} {below : List Frame} {meth : Method} {c : Code} {g : Sg} {R : Nat → Nat → Nat} {I : St} {v : Int32} (cx : Cx p s m args meth c g R R_Model b_Model_clashes 5 (some .boolean)) {k5 : Nat → Int32 → Int32 → Int32 → Int32 → Option Int32} (hk5 : ∀ (a0 : Nat) (x1 : Int32) (x2 : Int32) (x3 : Int32) (x4 : Int32) (H : Heap) (locs : List Loc) (ls : Array Slot), okA g 5 0 a0 → k5 a0 x1 x2 x3 x4 = some v → wW g R I H → va_S (· ∈ g.L) s.heap H locs → lv_has ls 5 [(0, .ref a0), (1, .int x1), (2, .int x2), (3, .int x3), (4, .int x4)] → W p l e { frames := 5, cells := 0, slots := 0, locals := 110 } s m args below meth c H locs 0 0 (MQ below (Qi g R v I) args s 0 0 (· ∈ g.L)) (F0 m 5 ls [])) : ∀ (a0 : Nat) (x1 : Int32) (x2 : Int32) (x4 : Int32) (t0 : Int32) (H : Heap) (locs : List Loc) (ls : Array Slot), okA g 5 0 a0 → B_Model_clashes_52 R I k5 a0 x1 x2 x4 t0 = some v → wW g R I H → va_S (· ∈ g.L) s.heap H locs → lv_has ls 5 [(0, .ref a0), (1, .int x1), (2, .int x2), (4, .int x4)] → W p l e { frames := 5, cells := 0, slots := 0, locals := 110 } s m args below meth c H locs 0 0 (MQ below (Qi g R v I) args s 0 0 (· ∈ g.L)) (F0 m 52 ls [.int t0]) := by
  have ⟨hx, hb, hml, hr, hlk, hown, hall, hT, hK⟩ := cx
  intro a0 x1 x2 x4 t0 H locs ls o0 h hP hS hl
  unfold B_Model_clashes_52 at h
  refine lv_istore_n (lv' := [(3, .int t0), (0, .ref a0), (1, .int x1), (2, .int x2), (4, .int x4)]) hx hb d_Model_clashes_52 rfl hl (Nat.le_of_ble_eq_true rfl) rfl (fun ls hl => ?_)
  refine lv_iinc (k := 4) (v := (x4 + 1)) (lv' := [(4, .int (x4 + 1)), (3, .int t0), (0, .ref a0), (1, .int x1), (2, .int x2)]) hx hb d_Model_clashes_53 hl rfl (by rw [show Int32.ofInt 1 = (1 : Int32) from by decide]) (Nat.le_of_ble_eq_true rfl) rfl (fun ls hl => ?_)
  refine lv_goto hx hb d_Model_clashes_56 rfl ?_
  exact hk5 _ _ _ _ _ _ _ _ o0 h hP hS (lv_sub hl [2, 3, 4, 1, 0] rfl)
def B_Model_clashes_47 (R : Nat → Nat → Nat) (I : St) (k5 : Nat → Int32 → Int32 → Int32 → Int32 → Option Int32) (a0 : Nat) (x1 : Int32) (x2 : Int32) (x4 : Int32) : Option Int32 := B_Model_clashes_52 R I k5 a0 x1 x2 x4 (1 : Int32)
set_option maxHeartbeats 4000000 in
set_option maxRecDepth 100000 in
theorem b_Model_clashes_47 {p : Program} {l : Launch} {e : Env} {s : State} {m : MethodId} {args : Array Value} {below : List Frame} {meth : Method} {c : Code} {g : Sg} {R : Nat → Nat → Nat} {I : St} {v : Int32} (cx : Cx p s m args meth c g R R_Model b_Model_clashes 5 (some .boolean)) {k5 : Nat → Int32 → Int32 → Int32 → Int32 → Option Int32} (hk5 : ∀ (a0 : Nat) (x1 : Int32) (x2 : Int32) (x3 : Int32) (x4 : Int32) (H : Heap) (locs : List Loc) (ls : Array Slot), okA g 5 0 a0 → k5 a0 x1 x2 x3 x4 = some v → wW g R I H → va_S (· ∈ g.L) s.heap H locs → lv_has ls 5 [(0, .ref a0), (1, .int x1), (2, .int x2), (3, .int x3), (4, .int x4)] → W p l e { frames := 5, cells := 0, slots := 0, locals := 110 } s m args below meth c H locs 0 0 (MQ below (Qi g R v I) args s 0 0 (· ∈ g.L)) (F0 m 5 ls [])) : ∀ (a0 : Nat) (x1 : Int32) (x2 : Int32) (x4 : Int32) (H : Heap) (locs : List Loc) (ls : Array Slot), okA g 5 0 a0 → B_Model_clashes_47 R I k5 a0 x1 x2 x4 = some v → wW g R I H → va_S (· ∈ g.L) s.heap H locs → lv_has ls 5 [(0, .ref a0), (1, .int x1), (2, .int x2), (4, .int x4)] → W p l e { frames := 5, cells := 0, slots := 0, locals := 110 } s m args below meth c H locs 0 0 (MQ below (Qi g R v I) args s 0 0 (· ∈ g.L)) (F0 m 47 ls []) := by
  have ⟨hx, hb, hml, hr, hlk, hown, hall, hT, hK⟩ := cx
  intro a0 x1 x2 x4 H locs ls o0 h hP hS hl
  unfold B_Model_clashes_47 at h
  refine lv_iconst (v := 1) hx hb d_Model_clashes_47 (by decide) ?_
  refine lv_goto hx hb d_Model_clashes_48 rfl ?_
  exact b_Model_clashes_52 cx hk5 _ _ _ _ _ _ _ _ o0 h hP hS (lv_sub hl [0, 1, 2, 3] rfl)
def B_Model_clashes_51 (R : Nat → Nat → Nat) (I : St) (k5 : Nat → Int32 → Int32 → Int32 → Int32 → Option Int32) (a0 : Nat) (x1 : Int32) (x2 : Int32) (x4 : Int32) : Option Int32 := B_Model_clashes_52 R I k5 a0 x1 x2 x4 (0 : Int32)
set_option maxHeartbeats 4000000 in
set_option maxRecDepth 100000 in
theorem b_Model_clashes_51 {p : Program} {l : Launch} {e : Env} {s : State} {m : MethodId} {args : Array Value} {below : List Frame} {meth : Method} {c : Code} {g : Sg} {R : Nat → Nat → Nat} {I : St} {v : Int32} (cx : Cx p s m args meth c g R R_Model b_Model_clashes 5 (some .boolean)) {k5 : Nat → Int32 → Int32 → Int32 → Int32 → Option Int32} (hk5 : ∀ (a0 : Nat) (x1 : Int32) (x2 : Int32) (x3 : Int32) (x4 : Int32) (H : Heap) (locs : List Loc) (ls : Array Slot), okA g 5 0 a0 → k5 a0 x1 x2 x3 x4 = some v → wW g R I H → va_S (· ∈ g.L) s.heap H locs → lv_has ls 5 [(0, .ref a0), (1, .int x1), (2, .int x2), (3, .int x3), (4, .int x4)] → W p l e { frames := 5, cells := 0, slots := 0, locals := 110 } s m args below meth c H locs 0 0 (MQ below (Qi g R v I) args s 0 0 (· ∈ g.L)) (F0 m 5 ls [])) : ∀ (a0 : Nat) (x1 : Int32) (x2 : Int32) (x4 : Int32) (H : Heap) (locs : List Loc) (ls : Array Slot), okA g 5 0 a0 → B_Model_clashes_51 R I k5 a0 x1 x2 x4 = some v → wW g R I H → va_S (· ∈ g.L) s.heap H locs → lv_has ls 5 [(0, .ref a0), (1, .int x1), (2, .int x2), (4, .int x4)] → W p l e { frames := 5, cells := 0, slots := 0, locals := 110 } s m args below meth c H locs 0 0 (MQ below (Qi g R v I) args s 0 0 (· ∈ g.L)) (F0 m 51 ls []) := by
  have ⟨hx, hb, hml, hr, hlk, hown, hall, hT, hK⟩ := cx
  intro a0 x1 x2 x4 H locs ls o0 h hP hS hl
  unfold B_Model_clashes_51 at h
  refine lv_iconst (v := 0) hx hb d_Model_clashes_51 (by decide) ?_
  exact b_Model_clashes_52 cx hk5 _ _ _ _ _ _ _ _ o0 h hP hS (lv_sub hl [0, 1, 2, 3] rfl)
def B_Model_clashes_5 (R : Nat → Nat → Nat) (I : St) : Nat → Nat → Int32 → Int32 → Int32 → Int32 → Option Int32
  | 0, _, _, _, _, _ => none
  | f + 1, a0, x1, x2, x3, x4 => (if (2 : Int32) ≤ x4 then (zck x3 (some x3)) else (if x3 = 0 then (chk x1 16 ((chk x2 16 ((ob (F_Model_bits R x4 I) (fun v30 => (if (((I (R a0 18) x1.toNatClampNeg) &&& (I (R a0 19) x2.toNatClampNeg)) &&& v30) = 0 then B_Model_clashes_51 R I (B_Model_clashes_5 R I f) a0 x1 x2 x4 else (ob (F_Model_holds R a0 x1 x4 I) (fun v41 => (if v41 = 0 then B_Model_clashes_51 R I (B_Model_clashes_5 R I f) a0 x1 x2 x4 else B_Model_clashes_47 R I (B_Model_clashes_5 R I f) a0 x1 x2 x4)))))))))) else B_Model_clashes_47 R I (B_Model_clashes_5 R I f) a0 x1 x2 x4))
set_option maxHeartbeats 4000000 in
set_option maxRecDepth 100000 in
theorem b_Model_clashes_5 {p : Program} {l : Launch} {e : Env} {s : State} {m : MethodId} {args : Array Value} {below : List Frame} {meth : Method} {c : Code} {g : Sg} {R : Nat → Nat → Nat} {I : St} {v : Int32} (cx : Cx p s m args meth c g R R_Model b_Model_clashes 5 (some .boolean)) (f : Nat) : ∀ (a0 : Nat) (x1 : Int32) (x2 : Int32) (x3 : Int32) (x4 : Int32) (H : Heap) (locs : List Loc) (ls : Array Slot), okA g 5 0 a0 → B_Model_clashes_5 R I f a0 x1 x2 x3 x4 = some v → wW g R I H → va_S (· ∈ g.L) s.heap H locs → lv_has ls 5 [(0, .ref a0), (1, .int x1), (2, .int x2), (3, .int x3), (4, .int x4)] → W p l e { frames := 5, cells := 0, slots := 0, locals := 110 } s m args below meth c H locs 0 0 (MQ below (Qi g R v I) args s 0 0 (· ∈ g.L)) (F0 m 5 ls []) := by
  have ⟨hx, hb, hml, hr, hlk, hown, hall, hT, hK⟩ := cx
  induction f with
  | zero => intro a0 x1 x2 x3 x4 H locs ls o0 h; unfold B_Model_clashes_5 at h; cases h
  | succ f ih =>
    intro a0 x1 x2 x3 x4 H locs ls o0 h hP hS hl
    unfold B_Model_clashes_5 at h
    refine lv_iload hx hb d_Model_clashes_5 (lv_at hl 4 rfl) ?_
    refine lv_iconst (v := 2) hx hb d_Model_clashes_7 (by decide) ?_
    refine lv_icmp_ge hx hb d_Model_clashes_8 rfl (fun hc => ?_) (fun hc => ?_)
    · replace h := i_pos hc h
      refine lv_iload_n hx hb d_Model_clashes_59 rfl (lv_at hl 3 rfl) ?_
      obtain ⟨zk60, h⟩ := zck_el h
      obtain rfl := Option.some.inj h
      exact gg_zret hx hb hr hlk zk60 hK hP hS d_Model_clashes_60
    · replace h := i_neg hc h
      refine lv_iload_n hx hb d_Model_clashes_11 rfl (lv_at hl 3 rfl) ?_
      refine lv_if_ne hx hb d_Model_clashes_12 rfl (fun hc => ?_) (fun hc => ?_)
      · replace h := i_neg hc h
        exact b_Model_clashes_47 cx ih _ _ _ _ _ _ _ o0 h hP hS (lv_sub hl [0, 1, 2, 4] rfl)
      · replace h := i_pos hc h
        refine lv_aload_n hx hb d_Model_clashes_15 rfl (lv_at hl 0 rfl) ?_
        refine gg_get (C := R_Model) (T := F_Model) (N := 23) (ci := 5) hx hb hall i_Model hown hK hP o0.1 (wE_5 o0.2) rfl 18 (by decide) (hall _ m_422) (fun _ h9 => h9) rfl d_Model_clashes_16 ?_
        have o_16 : okA g 6 16 (R a0 18) := ty_Model_18 hT o0
        refine lv_iload_n hx hb d_Model_clashes_19 rfl (lv_at hl 1 rfl) ?_
        obtain ⟨hi20, h⟩ := chk_el h
        refine gg_iald hx hb hK hP o_16 hi20 d_Model_clashes_20 ?_
        refine lv_aload_n hx hb d_Model_clashes_21 rfl (lv_at hl 0 rfl) ?_
        refine gg_get (C := R_Model) (T := F_Model) (N := 23) (ci := 5) hx hb hall i_Model hown hK hP o0.1 (wE_5 o0.2) rfl 19 (by decide) (hall _ m_423) (fun _ h9 => h9) rfl d_Model_clashes_22 ?_
        have o_22 : okA g 6 16 (R a0 19) := ty_Model_19 hT o0
        refine lv_iload_n hx hb d_Model_clashes_25 rfl (lv_at hl 2 rfl) ?_
        obtain ⟨hi26, h⟩ := chk_el h
        refine gg_iald hx hb hK hP o_22 hi26 d_Model_clashes_26 ?_
        refine lv_iand hx hb d_Model_clashes_27 ?_
        refine lv_iload hx hb d_Model_clashes_28 (lv_at hl 4 rfl) ?_
        obtain ⟨v30, e30, h⟩ := ob_el h
        refine gg_Si (As := [.int x4]) (rest := [.int ((I (R a0 18) x1.toNatClampNeg) &&& (I (R a0 19) x2.toNatClampNeg))]) ⟨hx, hb, hml, hown, hall⟩ (c_Model_bits l hT e30) (cwS 1 hall (gS m_424 m_425 m_338 m_421) rfl rfl rfl (by decide +kernel) ⟨Nat.le_of_ble_eq_true rfl, Nat.le_of_ble_eq_true rfl⟩) hK hP hS rfl hl.1 rfl (Nat.le_of_ble_eq_true rfl) d_Model_clashes_30 (fun H locs hP hS => ?_)
        refine lv_iand hx hb d_Model_clashes_33 ?_
        refine lv_if_eq hx hb d_Model_clashes_34 rfl (fun hc => ?_) (fun hc => ?_)
        · replace h := i_pos hc h
          exact b_Model_clashes_51 cx ih _ _ _ _ _ _ _ o0 h hP hS (lv_sub hl [0, 1, 2, 4] rfl)
        · replace h := i_neg hc h
          refine lv_aload_n hx hb d_Model_clashes_37 rfl (lv_at hl 0 rfl) ?_
          refine lv_iload_n hx hb d_Model_clashes_38 rfl (lv_at hl 1 rfl) ?_
          refine lv_iload hx hb d_Model_clashes_39 (lv_at hl 4 rfl) ?_
          obtain ⟨v41, e41, h⟩ := ob_el h
          refine gg_Vi (As := [.int x1, .int x4]) (rest := []) (ci := 5) (C := R_Model) (T := F_Model) (N := 23) ⟨hx, hb, hml, hown, hall⟩ (c_Model_holds l hT o0 e41) (cwV 2 hall (gV m_429 m_430 m_431 m_338 m_428) rfl rfl rfl (by decide +kernel) ⟨Nat.le_of_ble_eq_true rfl, Nat.le_of_ble_eq_true rfl⟩) hK hP hS o0.1 (wE_5 o0.2) rfl rfl hl.1 rfl (Nat.le_of_ble_eq_true rfl) d_Model_clashes_41 (fun H locs hP hS => ?_)
          refine lv_if_eq hx hb d_Model_clashes_44 rfl (fun hc => ?_) (fun hc => ?_)
          · replace h := i_pos hc h
            exact b_Model_clashes_51 cx ih _ _ _ _ _ _ _ o0 h hP hS (lv_sub hl [0, 1, 2, 4] rfl)
          · replace h := i_neg hc h
            exact b_Model_clashes_47 cx ih _ _ _ _ _ _ _ o0 h hP hS (lv_sub hl [0, 1, 2, 4] rfl)
def F_Model_clashes (R : Nat → Nat → Nat) (a0 : Nat) (x1 : Int32) (x2 : Int32) (I : St) : Option Int32 := B_Model_clashes_5 R I 100 a0 x1 x2 (0 : Int32) (0 : Int32)
set_option maxHeartbeats 4000000 in
set_option maxRecDepth 100000 in
theorem c_Model_clashes (l : Launch) {g : Sg} {R : Nat → Nat → Nat} (hT : Ty g R) {a0 : Nat} (o0 : okA g 5 0 a0) {x1 : Int32} {x2 : Int32} {I : St} {v : Int32} (h : F_Model_clashes R a0 x1 x2 I = some v) : Cti l g R y_Model_clashes w_Model_clashes 5 110 [.ref a0, .int x1, .int x2] I v I := by
  unfold Cti
  refine Met.ofW (cc := b_Model_clashes) (maxL := 5) (ret := (some .boolean)) (by decide) rfl ?_
  intro p e s m args below meth c s₁ B hml hv
  obtain ⟨rfl, hP, hK⟩ := hv
  have hts := atoms_spec (ws := w_Model_clashes) B.pre
  have hall : ∀ w ∈ w_all, w.before _ s = true := fun w hw => hts w (List.mem_cons_of_mem _ hw)
  have hown : s.vm.findClass R_Model = some m.cls := findClass_of_methodNamed B.named
  have hx := B.exec
  have hb := B.bytes
  have hr := B.returns
  have hlk := B.notSynchronized
  have cx : Cx p s m _ meth c g R R_Model b_Model_clashes 5 (some .boolean) := ⟨hx, hb, hml, hr, hlk, hown, hall, hT, hK⟩
  have hl := lv_entry ([.ref a0, .int x1, .int x2]) (n := 5) (Nat.le_of_ble_eq_true rfl)
  rw [lg_entry_eq]
  generalize (lg_sl ([.ref a0, .int x1, .int x2]) ++ List.replicate (5 - (lg_sl ([.ref a0, .int x1, .int x2])).length) Slot.unset).toArray = ls at hl ⊢
  have hl : lv_has ls 5 [(0, .ref a0), (1, .int x1), (2, .int x2)] := hl
  have hS : va_S (· ∈ g.L) s.heap s.heap [] := va_S.rf
  unfold F_Model_clashes at h
  refine lv_iconst (v := 0) hx hb d_Model_clashes_0 (by decide) ?_
  refine lv_istore_n (lv' := [(3, .int (0 : Int32)), (0, .ref a0), (1, .int x1), (2, .int x2)]) hx hb d_Model_clashes_1 rfl hl (Nat.le_of_ble_eq_true rfl) rfl (fun ls hl => ?_)
  refine lv_iconst (v := 0) hx hb d_Model_clashes_2 (by decide) ?_
  refine lv_istore (lv' := [(4, .int (0 : Int32)), (3, .int (0 : Int32)), (0, .ref a0), (1, .int x1), (2, .int x2)]) hx hb d_Model_clashes_3 hl (Nat.le_of_ble_eq_true rfl) rfl (fun ls hl => ?_)
  exact b_Model_clashes_5 cx 100 _ _ _ _ _ _ _ _ o0 h hP hS (lv_sub hl [2, 3, 4, 1, 0] rfl)
end
