section
abbrev b_Log_holdsFor : ByteArray := prog_3_method_14_code
def y_Log_holdsFor : MethodName := ⟨"StampedStore$Log", "holdsFor", "(I)Z"⟩
def w_Log_holdsFor : List Cond := .code y_Log_holdsFor b_Log_holdsFor 2 (some .boolean) :: w_all
theorem d_Log_holdsFor_0 : decode b_Log_holdsFor 0 = .ok (.aload_n 0, 1) := by decide +kernel
theorem d_Log_holdsFor_1 : decode b_Log_holdsFor 1 = .ok (.iconst 1, 1) := by decide +kernel
theorem d_Log_holdsFor_2 : decode b_Log_holdsFor 2 = .ok (.iload_n 1, 1) := by decide +kernel
theorem d_Log_holdsFor_3 : decode b_Log_holdsFor 3 = .ok (.invokevirtual 55, 3) := by decide +kernel
theorem d_Log_holdsFor_6 : decode b_Log_holdsFor 6 = .ok (.ifCond .eq 11, 3) := by decide +kernel
theorem d_Log_holdsFor_9 : decode b_Log_holdsFor 9 = .ok (.aload_n 0, 1) := by decide +kernel
theorem d_Log_holdsFor_10 : decode b_Log_holdsFor 10 = .ok (.iload_n 1, 1) := by decide +kernel
theorem d_Log_holdsFor_11 : decode b_Log_holdsFor 11 = .ok (.invokevirtual 58, 3) := by decide +kernel
theorem d_Log_holdsFor_14 : decode b_Log_holdsFor 14 = .ok (.ifCond .eq 21, 3) := by decide +kernel
theorem d_Log_holdsFor_17 : decode b_Log_holdsFor 17 = .ok (.aload_n 0, 1) := by decide +kernel
theorem d_Log_holdsFor_18 : decode b_Log_holdsFor 18 = .ok (.iconst 2, 1) := by decide +kernel
theorem d_Log_holdsFor_19 : decode b_Log_holdsFor 19 = .ok (.iload_n 1, 1) := by decide +kernel
theorem d_Log_holdsFor_20 : decode b_Log_holdsFor 20 = .ok (.invokevirtual 55, 3) := by decide +kernel
theorem d_Log_holdsFor_23 : decode b_Log_holdsFor 23 = .ok (.ifCond .eq 16, 3) := by decide +kernel
theorem d_Log_holdsFor_26 : decode b_Log_holdsFor 26 = .ok (.aload_n 0, 1) := by decide +kernel
theorem d_Log_holdsFor_27 : decode b_Log_holdsFor 27 = .ok (.iconst 2, 1) := by decide +kernel
theorem d_Log_holdsFor_28 : decode b_Log_holdsFor 28 = .ok (.iload_n 1, 1) := by decide +kernel
theorem d_Log_holdsFor_29 : decode b_Log_holdsFor 29 = .ok (.invokevirtual 51, 3) := by decide +kernel
theorem d_Log_holdsFor_32 : decode b_Log_holdsFor 32 = .ok (.ifCond .ne 7, 3) := by decide +kernel
theorem d_Log_holdsFor_35 : decode b_Log_holdsFor 35 = .ok (.iconst 1, 1) := by decide +kernel
theorem d_Log_holdsFor_36 : decode b_Log_holdsFor 36 = .ok (.goto 4, 3) := by decide +kernel
theorem d_Log_holdsFor_39 : decode b_Log_holdsFor 39 = .ok (.iconst 0, 1) := by decide +kernel
theorem d_Log_holdsFor_40 : decode b_Log_holdsFor 40 = .ok (.ireturn, 1) := by decide +kernel
def B_Log_holdsFor_39 (R : Nat → Nat → Nat) (I : St) : Option Int32 := some (0 : Int32)
set_option maxHeartbeats 4000000 in
set_option maxRecDepth 100000 in
theorem b_Log_holdsFor_39 {p : Program} {l : Launch} {e : Env} {s : State} {m : MethodId} {args : Array Value} {below : List Frame} {meth : Method} {c : Code} {g : Sg} {R : Nat → Nat → Nat} {I : St} {v : Int32} (cx : Cx p s m args meth c g R R_Log b_Log_holdsFor 2 (some .boolean)) : ∀ (H : Heap) (locs : List Loc) (ls : Array Slot), B_Log_holdsFor_39 R I = some v → wW g R I H → va_S (· ∈ g.L) s.heap H locs → lv_has ls 2 [] → W p l e { frames := 3, cells := 0, slots := 0, locals := 67 } s m args below meth c H locs 0 0 (MQ below (Qi g R v I) args s 0 0 (· ∈ g.L)) (F0 m 39 ls []) := by
  have ⟨hx, hb, hml, hr, hlk, hown, hall, hT, hK⟩ := cx
  intro H locs ls h hP hS hl
  unfold B_Log_holdsFor_39 at h
  refine lv_iconst (v := 0) hx hb d_Log_holdsFor_39 (by decide) ?_
  obtain rfl := Option.some.inj h
  exact gg_zret hx hb hr hlk rfl hK hP hS d_Log_holdsFor_40
def B_Log_holdsFor_35 (R : Nat → Nat → Nat) (I : St) : Option Int32 := some (1 : Int32)
set_option maxHeartbeats 4000000 in
set_option maxRecDepth 100000 in
theorem b_Log_holdsFor_35 {p : Program} {l : Launch} {e : Env} {s : State} {m : MethodId} {args : Array Value} {below : List Frame} {meth : Method} {c : Code} {g : Sg} {R : Nat → Nat → Nat} {I : St} {v : Int32} (cx : Cx p s m args meth c g R R_Log b_Log_holdsFor 2 (some .boolean)) : ∀ (H : Heap) (locs : List Loc) (ls : Array Slot), B_Log_holdsFor_35 R I = some v → wW g R I H → va_S (· ∈ g.L) s.heap H locs → lv_has ls 2 [] → W p l e { frames := 3, cells := 0, slots := 0, locals := 67 } s m args below meth c H locs 0 0 (MQ below (Qi g R v I) args s 0 0 (· ∈ g.L)) (F0 m 35 ls []) := by
  have ⟨hx, hb, hml, hr, hlk, hown, hall, hT, hK⟩ := cx
  intro H locs ls h hP hS hl
  unfold B_Log_holdsFor_35 at h
  refine lv_iconst (v := 1) hx hb d_Log_holdsFor_35 (by decide) ?_
  refine lv_goto hx hb d_Log_holdsFor_36 rfl ?_
  obtain rfl := Option.some.inj h
  exact gg_zret hx hb hr hlk rfl hK hP hS d_Log_holdsFor_40
def B_Log_holdsFor_17 (R : Nat → Nat → Nat) (I : St) (a0 : Nat) (x1 : Int32) : Option Int32 := (ob (F_Log_has R a0 (2 : Int32) x1 I) (fun v20 => (if v20 = 0 then B_Log_holdsFor_39 R I else (ob (F_Log_knows R a0 (2 : Int32) x1 I) (fun v29 => (if v29 = 0 then B_Log_holdsFor_35 R I else B_Log_holdsFor_39 R I))))))
set_option maxHeartbeats 4000000 in
set_option maxRecDepth 100000 in
theorem b_Log_holdsFor_17 {p : Program} {l : Launch} {e : Env} {s : State} {m : MethodId} {args : Array Value} {below : List Frame} {meth : Method} {c : Code} {g : Sg} {R : Nat → Nat → Nat} {I : St} {v : Int32} (cx : Cx p s m args meth c g R R_Log b_Log_holdsFor 2 (some .boolean)) : ∀ (a0 : Nat) (x1 : Int32) (H : Heap) (locs : List Loc) (ls : Array Slot), okA g 1 0 a0 → B_Log_holdsFor_17 R I a0 x1 = some v → wW g R I H → va_S (· ∈ g.L) s.heap H locs → lv_has ls 2 [(0, .ref a0), (1, .int x1)] → W p l e { frames := 3, cells := 0, slots := 0, locals := 67 } s m args below meth c H locs 0 0 (MQ below (Qi g R v I) args s 0 0 (· ∈ g.L)) (F0 m 17 ls []) := by
  have ⟨hx, hb, hml, hr, hlk, hown, hall, hT, hK⟩ := cx
  intro a0 x1 H locs ls o0 h hP hS hl
  unfold B_Log_holdsFor_17 at h
  refine lv_aload_n hx hb d_Log_holdsFor_17 rfl (lv_at hl 0 rfl) ?_
  refine lv_iconst (v := 2) hx hb d_Log_holdsFor_18 (by decide) ?_
  refine lv_iload_n hx hb d_Log_holdsFor_19 rfl (lv_at hl 1 rfl) ?_
  obtain ⟨v20, e20, h⟩ := ob_el h
  refine gg_Vi (As := [.int (2 : Int32), .int x1]) (rest := []) (ci := 1) (C := R_Log) (T := F_Log) (N := 7) ⟨hx, hb, hml, hown, hall⟩ (c_Log_has l hT o0 e20) (cwV 2 hall (gV m_195 m_196 m_197 m_38 m_189) rfl rfl rfl (by decide +kernel) ⟨Nat.le_of_ble_eq_true rfl, Nat.le_of_ble_eq_true rfl⟩) hK hP hS o0.1 (wE_1 o0.2) rfl rfl hl.1 rfl (Nat.le_of_ble_eq_true rfl) d_Log_holdsFor_20 (fun H locs hP hS => ?_)
  refine lv_if_eq hx hb d_Log_holdsFor_23 rfl (fun hc => ?_) (fun hc => ?_)
  · replace h := i_pos hc h
    exact b_Log_holdsFor_39 cx _ _ _ h hP hS (lv_sub hl [] rfl)
  · replace h := i_neg hc h
    refine lv_aload_n hx hb d_Log_holdsFor_26 rfl (lv_at hl 0 rfl) ?_
    refine lv_iconst (v := 2) hx hb d_Log_holdsFor_27 (by decide) ?_
    refine lv_iload_n hx hb d_Log_holdsFor_28 rfl (lv_at hl 1 rfl) ?_
    obtain ⟨v29, e29, h⟩ := ob_el h
    refine gg_Vi (As := [.int (2 : Int32), .int x1]) (rest := []) (ci := 1) (C := R_Log) (T := F_Log) (N := 7) ⟨hx, hb, hml, hown, hall⟩ (c_Log_knows l hT o0 e29) (cwV 2 hall (gV m_191 m_192 m_193 m_38 m_190) rfl rfl rfl (by decide +kernel) ⟨Nat.le_of_ble_eq_true rfl, Nat.le_of_ble_eq_true rfl⟩) hK hP hS o0.1 (wE_1 o0.2) rfl rfl hl.1 rfl (Nat.le_of_ble_eq_true rfl) d_Log_holdsFor_29 (fun H locs hP hS => ?_)
    refine lv_if_ne hx hb d_Log_holdsFor_32 rfl (fun hc => ?_) (fun hc => ?_)
    · replace h := i_neg hc h
      exact b_Log_holdsFor_39 cx _ _ _ h hP hS (lv_sub hl [] rfl)
    · replace h := i_pos hc h
      exact b_Log_holdsFor_35 cx _ _ _ h hP hS (lv_sub hl [] rfl)
def F_Log_holdsFor (R : Nat → Nat → Nat) (a0 : Nat) (x1 : Int32) (I : St) : Option Int32 := (ob (F_Log_has R a0 (1 : Int32) x1 I) (fun v3 => (if v3 = 0 then B_Log_holdsFor_17 R I a0 x1 else (ob (F_Log_knowsEndOf R a0 x1 I) (fun v11 => (if v11 = 0 then B_Log_holdsFor_35 R I else B_Log_holdsFor_17 R I a0 x1))))))
set_option maxHeartbeats 4000000 in
set_option maxRecDepth 100000 in
theorem c_Log_holdsFor (l : Launch) {g : Sg} {R : Nat → Nat → Nat} (hT : Ty g R) {a0 : Nat} (o0 : okA g 1 0 a0) {x1 : Int32} {I : St} {v : Int32} (h : F_Log_holdsFor R a0 x1 I = some v) : Cti l g R y_Log_holdsFor w_Log_holdsFor 3 67 [.ref a0, .int x1] I v I := by
  unfold Cti
  refine Met.ofW (cc := b_Log_holdsFor) (maxL := 2) (ret := (some .boolean)) (by decide) rfl ?_
  intro p e s m args below meth c s₁ B hml hv
  obtain ⟨rfl, hP, hK⟩ := hv
  have hts := atoms_spec (ws := w_Log_holdsFor) B.pre
  have hall : ∀ w ∈ w_all, w.before _ s = true := fun w hw => hts w (List.mem_cons_of_mem _ hw)
  have hown : s.vm.findClass R_Log = some m.cls := findClass_of_methodNamed B.named
  have hx := B.exec
  have hb := B.bytes
  have hr := B.returns
  have hlk := B.notSynchronized
  have cx : Cx p s m _ meth c g R R_Log b_Log_holdsFor 2 (some .boolean) := ⟨hx, hb, hml, hr, hlk, hown, hall, hT, hK⟩
  have hl := lv_entry ([.ref a0, .int x1]) (n := 2) (Nat.le_of_ble_eq_true rfl)
  rw [lg_entry_eq]
  generalize (lg_sl ([.ref a0, .int x1]) ++ List.replicate (2 - (lg_sl ([.ref a0, .int x1])).length) Slot.unset).toArray = ls at hl ⊢
  have hl : lv_has ls 2 [(0, .ref a0), (1, .int x1)] := hl
  have hS : va_S (· ∈ g.L) s.heap s.heap [] := va_S.rf
  unfold F_Log_holdsFor at h
  refine lv_aload_n hx hb d_Log_holdsFor_0 rfl (lv_at hl 0 rfl) ?_
  refine lv_iconst (v := 1) hx hb d_Log_holdsFor_1 (by decide) ?_
  refine lv_iload_n hx hb d_Log_holdsFor_2 rfl (lv_at hl 1 rfl) ?_
  obtain ⟨v3, e3, h⟩ := ob_el h
  refine gg_Vi (As := [.int (1 : Int32), .int x1]) (rest := []) (ci := 1) (C := R_Log) (T := F_Log) (N := 7) ⟨hx, hb, hml, hown, hall⟩ (c_Log_has l hT o0 e3) (cwV 2 hall (gV m_195 m_196 m_197 m_38 m_189) rfl rfl rfl (by decide +kernel) ⟨Nat.le_of_ble_eq_true rfl, Nat.le_of_ble_eq_true rfl⟩) hK hP hS o0.1 (wE_1 o0.2) rfl rfl hl.1 rfl (Nat.le_of_ble_eq_true rfl) d_Log_holdsFor_3 (fun H locs hP hS => ?_)
  refine lv_if_eq hx hb d_Log_holdsFor_6 rfl (fun hc => ?_) (fun hc => ?_)
  · replace h := i_pos hc h
    exact b_Log_holdsFor_17 cx _ _ _ _ _ o0 h hP hS (lv_sub hl [0, 1] rfl)
  · replace h := i_neg hc h
    refine lv_aload_n hx hb d_Log_holdsFor_9 rfl (lv_at hl 0 rfl) ?_
    refine lv_iload_n hx hb d_Log_holdsFor_10 rfl (lv_at hl 1 rfl) ?_
    obtain ⟨v11, e11, h⟩ := ob_el h
    refine gg_Vi (As := [.int x1]) (rest := []) (ci := 1) (C := R_Log) (T := F_Log) (N := 7) ⟨hx, hb, hml, hown, hall⟩ (c_Log_knowsEndOf l hT o0 e11) (cwV 1 hall (gV m_198 m_199 m_200 m_38 m_194) rfl rfl rfl (by decide +kernel) ⟨Nat.le_of_ble_eq_true rfl, Nat.le_of_ble_eq_true rfl⟩) hK hP hS o0.1 (wE_1 o0.2) rfl rfl hl.1 rfl (Nat.le_of_ble_eq_true rfl) d_Log_holdsFor_11 (fun H locs hP hS => ?_)
    refine lv_if_eq hx hb d_Log_holdsFor_14 rfl (fun hc => ?_) (fun hc => ?_)
    · replace h := i_pos hc h
      exact b_Log_holdsFor_35 cx _ _ _ h hP hS (lv_sub hl [] rfl)
    · replace h := i_neg hc h
      exact b_Log_holdsFor_17 cx _ _ _ _ _ o0 h hP hS (lv_sub hl [0, 1] rfl)
abbrev b_Store_isHeldForWriter : ByteArray := prog_1_method_35_code
def y_Store_isHeldForWriter : MethodName := ⟨"StampedStore", "isHeldForWriter", "(LStampedStore$Log;I)Z"⟩
def w_Store_isHeldForWriter : List Cond := .code y_Store_isHeldForWriter b_Store_isHeldForWriter 4 (some .boolean) :: w_all
theorem d_Store_isHeldForWriter_0 : decode b_Store_isHeldForWriter 0 = .ok (.iconst 0, 1) := by decide +kernel
theorem d_Store_isHeldForWriter_1 : decode b_Store_isHeldForWriter 1 = .ok (.istore_n 3, 1) := by decide +kernel
theorem d_Store_isHeldForWriter_2 : decode b_Store_isHeldForWriter 2 = .ok (.iload_n 3, 1) := by decide +kernel
theorem d_Store_isHeldForWriter_3 : decode b_Store_isHeldForWriter 3 = .ok (.aload_n 0, 1) := by decide +kernel
theorem d_Store_isHeldForWriter_4 : decode b_Store_isHeldForWriter 4 = .ok (.getfield 119, 3) := by decide +kernel
theorem d_Store_isHeldForWriter_7 : decode b_Store_isHeldForWriter 7 = .ok (.if_icmp .ge 32, 3) := by decide +kernel
theorem d_Store_isHeldForWriter_10 : decode b_Store_isHeldForWriter 10 = .ok (.aload_n 0, 1) := by decide +kernel
theorem d_Store_isHeldForWriter_11 : decode b_Store_isHeldForWriter 11 = .ok (.getfield 17, 3) := by decide +kernel
theorem d_Store_isHeldForWriter_14 : decode b_Store_isHeldForWriter 14 = .ok (.iload_n 3, 1) := by decide +kernel
theorem d_Store_isHeldForWriter_15 : decode b_Store_isHeldForWriter 15 = .ok (.aaload, 1) := by decide +kernel
theorem d_Store_isHeldForWriter_16 : decode b_Store_isHeldForWriter 16 = .ok (.iload_n 2, 1) := by decide +kernel
theorem d_Store_isHeldForWriter_17 : decode b_Store_isHeldForWriter 17 = .ok (.invokevirtual 131, 3) := by decide +kernel
theorem d_Store_isHeldForWriter_20 : decode b_Store_isHeldForWriter 20 = .ok (.ifCond .eq 13, 3) := by decide +kernel
theorem d_Store_isHeldForWriter_23 : decode b_Store_isHeldForWriter 23 = .ok (.aload_n 1, 1) := by decide +kernel
theorem d_Store_isHeldForWriter_24 : decode b_Store_isHeldForWriter 24 = .ok (.iload_n 3, 1) := by decide +kernel
theorem d_Store_isHeldForWriter_25 : decode b_Store_isHeldForWriter 25 = .ok (.invokevirtual 233, 3) := by decide +kernel
theorem d_Store_isHeldForWriter_28 : decode b_Store_isHeldForWriter 28 = .ok (.ifCond .eq 5, 3) := by decide +kernel
theorem d_Store_isHeldForWriter_31 : decode b_Store_isHeldForWriter 31 = .ok (.iconst 1, 1) := by decide +kernel
theorem d_Store_isHeldForWriter_32 : decode b_Store_isHeldForWriter 32 = .ok (.ireturn, 1) := by decide +kernel
theorem d_Store_isHeldForWriter_33 : decode b_Store_isHeldForWriter 33 = .ok (.iinc 3 1, 3) := by decide +kernel
theorem d_Store_isHeldForWriter_36 : decode b_Store_isHeldForWriter 36 = .ok (.goto (-34), 3) := by decide +kernel
theorem d_Store_isHeldForWriter_39 : decode b_Store_isHeldForWriter 39 = .ok (.iconst 0, 1) := by decide +kernel
theorem d_Store_isHeldForWriter_40 : decode b_Store_isHeldForWriter 40 = .ok (.ireturn, 1) := by decide +kernel
def B_Store_isHeldForWriter_33 (R : Nat → Nat → Nat) (I : St) (k2 : Nat → Nat → Int32 → Int32 → Option Int32) (a0 : Nat) (a1 : Nat) (x2 : Int32) (x3 : Int32) : Option Int32 := k2 a0 a1 x2 (x3 + 1)
set_option maxHeartbeats 4000000 in
set_option maxRecDepth 100000 in
theorem b_Store_isHeldForWriter_33 {p : Program} {l : Launch} {e : Env} {s : State} {m : MethodId} {args : Array Value} {below : List Frame} {meth : Method} {c : Code} {g : Sg} {R : Nat → Nat → Nat} {I : St} {v : Int32} (cx : Cx p s m args meth c g R R_Store b_Store_isHeldForWriter 4 (some .boolean)) {k2 : Nat → Nat → Int32 → Int32 → Option Int32} (hk2 : ∀ (a0 : Nat) (a1 : Nat) (x2 : Int32) (x3 : Int32) (H : Heap) (locs : List Loc) (ls : Array Slot), okA g 4 0 a0 → okA g 1 0 a1 → k2 a0 a1 x2 x3 = some v → wW g R I H → va_S (· ∈ g.L) s.heap H locs → lv_has ls 4 [(0, .ref a0), (1, .ref a1), (2, .int x2), (3, .int x3)] → W p l e { frames := 4, cells := 0, slots := 0, locals := 88 } s m args below meth c H locs 0 0 (MQ below (Qi g R v I) args s 0 0 (· ∈ g.L)) (F0 m 2 ls [])) : ∀ (a0 : Nat) (a1 : Nat) (x2 : Int32) (x3 : Int32) (H : Heap) (locs : List Loc) (ls : Array Slot), okA g 4 0 a0 → okA g 1 0 a1 → B_Store_isHeldForWriter_33 R I k2 a0 a1 x2 x3 = some v → wW g R I H → va_S (· ∈ g.L) s.heap H locs → lv_has ls 4 [(0, .ref a0), (1, .ref a1), (2, .int x2), (3, .int x3)] → W p l e { frames := 4, cells := 0, slots := 0, locals := 88 } s m args below meth c H locs 0 0 (MQ below (Qi g R v I) args s 0 0 (· ∈ g.L)) (F0 m 33 ls []) := by
  have ⟨hx, hb, hml, hr, hlk, hown, hall, hT, hK⟩ := cx
  intro a0 a1 x2 x3 H locs ls o0 o1 h hP hS hl
  unfold B_Store_isHeldForWriter_33 at h
  refine lv_iinc (k := 3) (v := (x3 + 1)) (lv' := [(3, .int (x3 + 1)), (0, .ref a0), (1, .ref a1), (2, .int x2)]) hx hb d_Store_isHeldForWriter_33 hl rfl (by rw [show Int32.ofInt 1 = (1 : Int32) from by decide]) (Nat.le_of_ble_eq_true rfl) rfl (fun ls hl => ?_)
  refine lv_goto hx hb d_Store_isHeldForWriter_36 rfl ?_
  exact hk2 _ _ _ _ _ _ _ o0 o1 h hP hS (lv_sub hl [1, 2, 3, 0] rfl)
def B_Store_isHeldForWriter_2 (R : Nat → Nat → Nat) (I : St) : Nat → Nat → Nat → Int32 → Int32 → Option Int32
  | 0, _, _, _, _ => none
  | f + 1, a0, a1, x2, x3 => (if (I a0 3) ≤ x3 then some (0 : Int32) else (chk x3 16 ((ob (F_Txn_writes R (R (R a0 2) x3.toNatClampNeg) x2 I) (fun v17 => (if v17 = 0 then B_Store_isHeldForWriter_33 R I (B_Store_isHeldForWriter_2 R I f) a0 a1 x2 x3 else (ob (F_Log_holdsFor R a1 x3 I) (fun v25 => (if v25 = 0 then B_Store_isHeldForWriter_33 R I (B_Store_isHeldForWriter_2 R I f) a0 a1 x2 x3 else some (1 : Int32))))))))))
set_option maxHeartbeats 4000000 in
set_option maxRecDepth 100000 in
theorem b_Store_isHeldForWriter_2 {p : Program} {l : Launch} {e : Env} {s : State} {m : MethodId} {args : Array Value} {below : List Frame} {meth : Method} {c : Code} {g : Sg} {R : Nat → Nat → Nat} {I : St} {v : Int32} (cx : Cx p s m args meth c g R R_Store b_Store_isHeldForWriter 4 (some .boolean)) (f : Nat) : ∀ (a0 : Nat) (a1 : Nat) (x2 : Int32) (x3 : Int32) (H : Heap) (locs : List Loc) (ls : Array Slot), okA g 4 0 a0 → okA g 1 0 a1 → B_Store_isHeldForWriter_2 R I f a0 a1 x2 x3 = some v → wW g R I H → va_S (· ∈ g.L) s.heap H locs → lv_has ls 4 [(0, .ref a0), (1, .ref a1), (2, .int x2), (3, .int x3)] → W p l e { frames := 4, cells := 0, slots := 0, locals := 88 } s m args below meth c H locs 0 0 (MQ below (Qi g R v I) args s 0 0 (· ∈ g.L)) (F0 m 2 ls []) := by
  have ⟨hx, hb, hml, hr, hlk, hown, hall, hT, hK⟩ := cx
  induction f with
  | zero => intro a0 a1 x2 x3 H locs ls o0 o1 h; unfold B_Store_isHeldForWriter_2 at h; cases h
  | succ f ih =>
    intro a0 a1 x2 x3 H locs ls o0 o1 h hP hS hl
    unfold B_Store_isHeldForWriter_2 at h
    refine lv_iload_n hx hb d_Store_isHeldForWriter_2 rfl (lv_at hl 3 rfl) ?_
    refine lv_aload_n hx hb d_Store_isHeldForWriter_3 rfl (lv_at hl 0 rfl) ?_
    refine gg_get (C := R_Store) (T := F_Store) (N := 4) (ci := 4) hx hb hall i_Store hown hK hP o0.1 (wE_4 o0.2) rfl 3 (by decide) (hall _ m_158) (fun _ h9 => h9) rfl d_Store_isHeldForWriter_4 ?_
    refine lv_icmp_ge hx hb d_Store_isHeldForWriter_7 rfl (fun hc => ?_) (fun hc => ?_)
    · replace h := i_pos hc h
      refine lv_iconst (v := 0) hx hb d_Store_isHeldForWriter_39 (by decide) ?_
      obtain rfl := Option.some.inj h
      exact gg_zret hx hb hr hlk rfl hK hP hS d_Store_isHeldForWriter_40
    · replace h := i_neg hc h
      refine lv_aload_n hx hb d_Store_isHeldForWriter_10 rfl (lv_at hl 0 rfl) ?_
      refine gg_get (C := R_Store) (T := F_Store) (N := 4) (ci := 4) hx hb hall i_Store hown hK hP o0.1 (wE_4 o0.2) rfl 2 (by decide) (hall _ m_202) (fun _ h9 => h9) rfl d_Store_isHeldForWriter_11 ?_
      have o_11 : okA g 9 16 (R a0 2) := ty_Store_2 hT o0
      refine lv_iload_n hx hb d_Store_isHeldForWriter_14 rfl (lv_at hl 3 rfl) ?_
      obtain ⟨hi15, h⟩ := chk_el h
      refine gg_tald hx hb hK hP o_11 hi15 d_Store_isHeldForWriter_15 ?_
      have o_15 : okA g 3 0 (R (R a0 2) x3.toNatClampNeg) := ty_9 hT o_11 _
      refine lv_iload_n hx hb d_Store_isHeldForWriter_16 rfl (lv_at hl 2 rfl) ?_
      obtain ⟨v17, e17, h⟩ := ob_el h
      refine gg_Vi (As := [.int x2]) (rest := []) (ci := 3) (C := R_Txn) (T := F_Txn) (N := 5) ⟨hx, hb, hml, hown, hall⟩ (c_Txn_writes l hT o_15 e17) (cwV 1 hall (gV m_203 m_204 m_205 m_180 m_163) rfl rfl rfl (by decide +kernel) ⟨Nat.le_of_ble_eq_true rfl, Nat.le_of_ble_eq_true rfl⟩) hK hP hS o_15.1 (wE_3 o_15.2) rfl rfl hl.1 rfl (Nat.le_of_ble_eq_true rfl) d_Store_isHeldForWriter_17 (fun H locs hP hS => ?_)
      refine lv_if_eq hx hb d_Store_isHeldForWriter_20 rfl (fun hc => ?_) (fun hc => ?_)
      · replace h := i_pos hc h
        exact b_Store_isHeldForWriter_33 cx ih _ _ _ _ _ _ _ o0 o1 h hP hS (lv_sub hl [0, 1, 2, 3] rfl)
      · replace h := i_neg hc h
        refine lv_aload_n hx hb d_Store_isHeldForWriter_23 rfl (lv_at hl 1 rfl) ?_
        refine lv_iload_n hx hb d_Store_isHeldForWriter_24 rfl (lv_at hl 3 rfl) ?_
        obtain ⟨v25, e25, h⟩ := ob_el h
        refine gg_Vi (As := [.int x3]) (rest := []) (ci := 1) (C := R_Log) (T := F_Log) (N := 7) ⟨hx, hb, hml, hown, hall⟩ (c_Log_holdsFor l hT o1 e25) (cwV 1 hall (gV m_206 m_207 m_208 m_38 m_201) rfl rfl rfl (by decide +kernel) ⟨Nat.le_of_ble_eq_true rfl, Nat.le_of_ble_eq_true rfl⟩) hK hP hS o1.1 (wE_1 o1.2) rfl rfl hl.1 rfl (Nat.le_of_ble_eq_true rfl) d_Store_isHeldForWriter_25 (fun H locs hP hS => ?_)
        refine lv_if_eq hx hb d_Store_isHeldForWriter_28 rfl (fun hc => ?_) (fun hc => ?_)
        · replace h := i_pos hc h
          exact b_Store_isHeldForWriter_33 cx ih _ _ _ _ _ _ _ o0 o1 h hP hS (lv_sub hl [0, 1, 2, 3] rfl)
        · replace h := i_neg hc h
          refine lv_iconst (v := 1) hx hb d_Store_isHeldForWriter_31 (by decide) ?_
          obtain rfl := Option.some.inj h
          exact gg_zret hx hb hr hlk rfl hK hP hS d_Store_isHeldForWriter_32
def F_Store_isHeldForWriter (R : Nat → Nat → Nat) (a0 : Nat) (a1 : Nat) (x2 : Int32) (I : St) : Option Int32 := B_Store_isHeldForWriter_2 R I 100 a0 a1 x2 (0 : Int32)
set_option maxHeartbeats 4000000 in
set_option maxRecDepth 100000 in
theorem c_Store_isHeldForWriter (l : Launch) {g : Sg} {R : Nat → Nat → Nat} (hT : Ty g R) {a0 : Nat} (o0 : okA g 4 0 a0) {a1 : Nat} (o1 : okA g 1 0 a1) {x2 : Int32} {I : St} {v : Int32} (h : F_Store_isHeldForWriter R a0 a1 x2 I = some v) : Cti l g R y_Store_isHeldForWriter w_Store_isHeldForWriter 4 88 [.ref a0, .ref a1, .int x2] I v I := by
  unfold Cti
  refine Met.ofW (cc := b_Store_isHeldForWriter) (maxL := 4) (ret := (some .boolean)) (by decide) rfl ?_
  intro p e s m args below meth c s₁ B hml hv
  obtain ⟨rfl, hP, hK⟩ := hv
  have hts := atoms_spec (ws := w_Store_isHeldForWriter) B.pre
  have hall : ∀ w ∈ w_all, w.before _ s = true := fun w hw => hts w (List.mem_cons_of_mem _ hw)
  have hown : s.vm.findClass R_Store = some m.cls := findClass_of_methodNamed B.named
  have hx := B.exec
  have hb := B.bytes
  have hr := B.returns
  have hlk := B.notSynchronized
  have cx : Cx p s m _ meth c g R R_Store b_Store_isHeldForWriter 4 (some .boolean) := ⟨hx, hb, hml, hr, hlk, hown, hall, hT, hK⟩
  have hl := lv_entry ([.ref a0, .ref a1, .int x2]) (n := 4) (Nat.le_of_ble_eq_true rfl)
  rw [lg_entry_eq]
  generalize (lg_sl ([.ref a0, .ref a1, .int x2]) ++ List.replicate (4 - (lg_sl ([.ref a0, .ref a1, .int x2])).length) Slot.unset).toArray = ls at hl ⊢
  have hl : lv_has ls 4 [(0, .ref a0), (1, .ref a1), (2, .int x2)] := hl
  have hS : va_S (· ∈ g.L) s.heap s.heap [] := va_S.rf
  unfold F_Store_isHeldForWriter at h
  refine lv_iconst (v := 0) hx hb d_Store_isHeldForWriter_0 (by decide) ?_
  refine lv_istore_n (lv' := [(3, .int (0 : Int32)), (0, .ref a0), (1, .ref a1), (2, .int x2)]) hx hb d_Store_isHeldForWriter_1 rfl hl (Nat.le_of_ble_eq_true rfl) rfl (fun ls hl => ?_)
  exact b_Store_isHeldForWriter_2 cx 100 _ _ _ _ _ _ _ o0 o1 h hP hS (lv_sub hl [1, 2, 3, 0] rfl)
abbrev b_Txn_noteRead : ByteArray := prog_5_method_7_code
def y_Txn_noteRead : MethodName := ⟨"StampedStore$Transaction", "noteRead", "(II)V"⟩
def w_Txn_noteRead : List Cond := .code y_Txn_noteRead b_Txn_noteRead 3 none :: w_all
theorem d_Txn_noteRead_0 : decode b_Txn_noteRead 0 = .ok (.aload_n 0, 1) := by decide +kernel
theorem d_Txn_noteRead_1 : decode b_Txn_noteRead 1 = .ok (.getfield 9, 3) := by decide +kernel
theorem d_Txn_noteRead_4 : decode b_Txn_noteRead 4 = .ok (.iload_n 1, 1) := by decide +kernel
theorem d_Txn_noteRead_5 : decode b_Txn_noteRead 5 = .ok (.iconst 1, 1) := by decide +kernel
theorem d_Txn_noteRead_6 : decode b_Txn_noteRead 6 = .ok (.bastore, 1) := by decide +kernel
theorem d_Txn_noteRead_7 : decode b_Txn_noteRead 7 = .ok (.aload_n 0, 1) := by decide +kernel
theorem d_Txn_noteRead_8 : decode b_Txn_noteRead 8 = .ok (.iload_n 1, 1) := by decide +kernel
theorem d_Txn_noteRead_9 : decode b_Txn_noteRead 9 = .ok (.invokestatic 45, 3) := by decide +kernel
theorem d_Txn_noteRead_12 : decode b_Txn_noteRead 12 = .ok (.invokevirtual 36, 3) := by decide +kernel
theorem d_Txn_noteRead_15 : decode b_Txn_noteRead 15 = .ok (.ifCond .ne 13, 3) := by decide +kernel
theorem d_Txn_noteRead_18 : decode b_Txn_noteRead 18 = .ok (.aload_n 0, 1) := by decide +kernel
theorem d_Txn_noteRead_19 : decode b_Txn_noteRead 19 = .ok (.getfield 19, 3) := by decide +kernel
theorem d_Txn_noteRead_22 : decode b_Txn_noteRead 22 = .ok (.iload_n 1, 1) := by decide +kernel
theorem d_Txn_noteRead_23 : decode b_Txn_noteRead 23 = .ok (.invokestatic 45, 3) := by decide +kernel
theorem d_Txn_noteRead_26 : decode b_Txn_noteRead 26 = .ok (.iload_n 2, 1) := by decide +kernel
theorem d_Txn_noteRead_27 : decode b_Txn_noteRead 27 = .ok (.iastore, 1) := by decide +kernel
theorem d_Txn_noteRead_28 : decode b_Txn_noteRead 28 = .ok (.return_, 1) := by decide +kernel
def F_Txn_noteRead (R : Nat → Nat → Nat) (a0 : Nat) (x1 : Int32) (x2 : Int32) (I : St) : Option St := (chk x1 8 (ap (up2 I (R a0 0) x1.toNatClampNeg (vp_nar .boolean (1 : Int32))) (fun I6 => (ob (F_Store_groupOfKey R x1 I6) (fun v9 => (ob (F_Txn_hasReadIn R a0 v9 I6) (fun v12 => (if v12 = 0 then (ob (F_Store_groupOfKey R x1 I6) (fun v23 => (chk v23 2 (ap (up2 I6 (R a0 2) v23.toNatClampNeg x2) (fun I27 => some I27))))) else some I6))))))))
set_option maxHeartbeats 4000000 in
set_option maxRecDepth 100000 in
theorem c_Txn_noteRead (l : Launch) {g : Sg} {R : Nat → Nat → Nat} (hT : Ty g R) {a0 : Nat} (o0 : okA g 3 0 a0) {x1 : Int32} {x2 : Int32} {I : St} {J : St} (h : F_Txn_noteRead R a0 x1 x2 I = some J) : Ctv l g R y_Txn_noteRead w_Txn_noteRead 1 21 [.ref a0, .int x1, .int x2] I J := by
  unfold Ctv
  refine Met.ofW (cc := b_Txn_noteRead) (maxL := 3) (ret := none) (by decide) rfl ?_
  intro p e s m args below meth c s₁ B hml hv
  obtain ⟨rfl, hP, hK⟩ := hv
  have hts := atoms_spec (ws := w_Txn_noteRead) B.pre
  have hall : ∀ w ∈ w_all, w.before _ s = true := fun w hw => hts w (List.mem_cons_of_mem _ hw)
  have hown : s.vm.findClass R_Txn = some m.cls := findClass_of_methodNamed B.named
  have hx := B.exec
  have hb := B.bytes
  have hr := B.returns
  have hlk := B.notSynchronized
  have cx : Cx p s m _ meth c g R R_Txn b_Txn_noteRead 3 none := ⟨hx, hb, hml, hr, hlk, hown, hall, hT, hK⟩
  have hl := lv_entry ([.ref a0, .int x1, .int x2]) (n := 3) (Nat.le_of_ble_eq_true rfl)
  rw [lg_entry_eq]
  generalize (lg_sl ([.ref a0, .int x1, .int x2]) ++ List.replicate (3 - (lg_sl ([.ref a0, .int x1, .int x2])).length) Slot.unset).toArray = ls at hl ⊢
  have hl : lv_has ls 3 [(0, .ref a0), (1, .int x1), (2, .int x2)] := hl
  have hS : va_S (· ∈ g.L) s.heap s.heap [] := va_S.rf
  unfold F_Txn_noteRead at h
  refine lv_aload_n hx hb d_Txn_noteRead_0 rfl (lv_at hl 0 rfl) ?_
  refine gg_get (C := R_Txn) (T := F_Txn) (N := 5) (ci := 3) hx hb hall i_Txn hown hK hP o0.1 (wE_3 o0.2) rfl 0 (by decide) (hall _ m_210) (fun _ h9 => h9) rfl d_Txn_noteRead_1 ?_
  have o_1 : okA g 7 8 (R a0 0) := ty_Txn_0 hT o0
  refine lv_iload_n hx hb d_Txn_noteRead_4 rfl (lv_at hl 1 rfl) ?_
  refine lv_iconst (v := 1) hx hb d_Txn_noteRead_5 (by decide) ?_
  obtain ⟨hi6, h⟩ := chk_el h
  refine gg_zast hx hb hT.1 hK hP hS o_1 hi6 d_Txn_noteRead_6 (fun I6 H locs e6 hP hS => ?_)
  replace h := ap_el e6 h
  refine lv_aload_n hx hb d_Txn_noteRead_7 rfl (lv_at hl 0 rfl) ?_
  refine lv_iload_n hx hb d_Txn_noteRead_8 rfl (lv_at hl 1 rfl) ?_
  obtain ⟨v9, e9, h⟩ := ob_el h
  refine gg_SNi (As := [.int x1]) (rest := [.ref a0]) ⟨hx, hb, hml, hown, hall⟩ (c_Store_groupOfKey l hT e9) ⟨va_cnB 1 hall (gC m_164) rfl rfl rfl hK.2 (hall _ m_6) (by decide +kernel) ⟨Nat.le_of_ble_eq_true rfl, Nat.le_of_ble_eq_true rfl⟩, hall _ m_211, trivial⟩ hK hP hS rfl hl.1 rfl (Nat.le_of_ble_eq_true rfl) d_Txn_noteRead_9 (fun H locs hP hS => ?_)
  obtain ⟨v12, e12, h⟩ := ob_el h
  refine gg_Vi (As := [.int v9]) (rest := []) (ci := 3) (C := R_Txn) (T := F_Txn) (N := 5) ⟨hx, hb, hml, hown, hall⟩ (c_Txn_hasReadIn l hT o0 e12) (cwV 1 hall (gV m_212 m_178 m_179 m_180 m_171) rfl rfl rfl (by decide +kernel) ⟨Nat.le_of_ble_eq_true rfl, Nat.le_of_ble_eq_true rfl⟩) hK hP hS o0.1 (wE_3 o0.2) rfl rfl hl.1 rfl (Nat.le_of_ble_eq_true rfl) d_Txn_noteRead_12 (fun H locs hP hS => ?_)
  refine lv_if_ne hx hb d_Txn_noteRead_15 rfl (fun hc => ?_) (fun hc => ?_)
  · replace h := i_neg hc h
    obtain rfl := Option.some.inj h
    exact gg_vret hx hb hr hlk hK hP hS d_Txn_noteRead_28
  · replace h := i_pos hc h
    refine lv_aload_n hx hb d_Txn_noteRead_18 rfl (lv_at hl 0 rfl) ?_
    refine gg_get (C := R_Txn) (T := F_Txn) (N := 5) (ci := 3) hx hb hall i_Txn hown hK hP o0.1 (wE_3 o0.2) rfl 2 (by decide) (hall _ m_170) (fun _ h9 => h9) rfl d_Txn_noteRead_19 ?_
    have o_19 : okA g 6 2 (R a0 2) := ty_Txn_2 hT o0
    refine lv_iload_n hx hb d_Txn_noteRead_22 rfl (lv_at hl 1 rfl) ?_
    obtain ⟨v23, e23, h⟩ := ob_el h
    refine gg_SNi (As := [.int x1]) (rest := [.ref (R a0 2)]) ⟨hx, hb, hml, hown, hall⟩ (c_Store_groupOfKey l hT e23) ⟨va_cnB 1 hall (gC m_164) rfl rfl rfl hK.2 (hall _ m_6) (by decide +kernel) ⟨Nat.le_of_ble_eq_true rfl, Nat.le_of_ble_eq_true rfl⟩, hall _ m_211, trivial⟩ hK hP hS rfl hl.1 rfl (Nat.le_of_ble_eq_true rfl) d_Txn_noteRead_23 (fun H locs hP hS => ?_)
    refine lv_iload_n hx hb d_Txn_noteRead_26 rfl (lv_at hl 2 rfl) ?_
    obtain ⟨hi27, h⟩ := chk_el h
    refine gg_iast hx hb hT.1 hK hP hS o_19 hi27 d_Txn_noteRead_27 (fun I27 H locs e27 hP hS => ?_)
    replace h := ap_el e27 h
    obtain rfl := Option.some.inj h
    exact gg_vret hx hb hr hlk hK hP hS d_Txn_noteRead_28
abbrev b_Store_versionStamp : ByteArray := prog_1_method_46_code
def y_Store_versionStamp : MethodName := ⟨"StampedStore", "versionStamp", "(LStampedStore$Log;II)I"⟩
def w_Store_versionStamp : List Cond := .code y_Store_versionStamp b_Store_versionStamp 5 (some .int) :: w_all
theorem d_Store_versionStamp_0 : decode b_Store_versionStamp 0 = .ok (.aload_n 1, 1) := by decide +kernel
theorem d_Store_versionStamp_1 : decode b_Store_versionStamp 1 = .ok (.getfield 270, 3) := by decide +kernel
theorem d_Store_versionStamp_4 : decode b_Store_versionStamp 4 = .ok (.iload_n 2, 1) := by decide +kernel
theorem d_Store_versionStamp_5 : decode b_Store_versionStamp 5 = .ok (.iaload, 1) := by decide +kernel
theorem d_Store_versionStamp_6 : decode b_Store_versionStamp 6 = .ok (.istore 4, 2) := by decide +kernel
theorem d_Store_versionStamp_8 : decode b_Store_versionStamp 8 = .ok (.aload_n 0, 1) := by decide +kernel
theorem d_Store_versionStamp_9 : decode b_Store_versionStamp 9 = .ok (.iload 4, 2) := by decide +kernel
theorem d_Store_versionStamp_11 : decode b_Store_versionStamp 11 = .ok (.invokevirtual 122, 3) := by decide +kernel
theorem d_Store_versionStamp_14 : decode b_Store_versionStamp 14 = .ok (.ifCond .eq 17, 3) := by decide +kernel
theorem d_Store_versionStamp_17 : decode b_Store_versionStamp 17 = .ok (.aload_n 0, 1) := by decide +kernel
theorem d_Store_versionStamp_18 : decode b_Store_versionStamp 18 = .ok (.getfield 17, 3) := by decide +kernel
theorem d_Store_versionStamp_21 : decode b_Store_versionStamp 21 = .ok (.iload 4, 2) := by decide +kernel
theorem d_Store_versionStamp_23 : decode b_Store_versionStamp 23 = .ok (.aaload, 1) := by decide +kernel
theorem d_Store_versionStamp_24 : decode b_Store_versionStamp 24 = .ok (.iload_n 3, 1) := by decide +kernel
theorem d_Store_versionStamp_25 : decode b_Store_versionStamp 25 = .ok (.invokevirtual 131, 3) := by decide +kernel
theorem d_Store_versionStamp_28 : decode b_Store_versionStamp 28 = .ok (.ifCond .ne 5, 3) := by decide +kernel
theorem d_Store_versionStamp_31 : decode b_Store_versionStamp 31 = .ok (.iconst (-1), 1) := by decide +kernel
theorem d_Store_versionStamp_32 : decode b_Store_versionStamp 32 = .ok (.ireturn, 1) := by decide +kernel
theorem d_Store_versionStamp_33 : decode b_Store_versionStamp 33 = .ok (.aload_n 1, 1) := by decide +kernel
theorem d_Store_versionStamp_34 : decode b_Store_versionStamp 34 = .ok (.getfield 273, 3) := by decide +kernel
theorem d_Store_versionStamp_37 : decode b_Store_versionStamp 37 = .ok (.iload_n 2, 1) := by decide +kernel
theorem d_Store_versionStamp_38 : decode b_Store_versionStamp 38 = .ok (.iaload, 1) := by decide +kernel
theorem d_Store_versionStamp_39 : decode b_Store_versionStamp 39 = .ok (.iconst 2, 1) := by decide +kernel
theorem d_Store_versionStamp_40 : decode b_Store_versionStamp 40 = .ok (.if_icmp .ne 10, 3) := by decide +kernel
theorem d_Store_versionStamp_43 : decode b_Store_versionStamp 43 = .ok (.aload_n 1, 1) := by decide +kernel
theorem d_Store_versionStamp_44 : decode b_Store_versionStamp 44 = .ok (.getfield 276, 3) := by decide +kernel
theorem d_Store_versionStamp_47 : decode b_Store_versionStamp 47 = .ok (.iload_n 2, 1) := by decide +kernel
theorem d_Store_versionStamp_48 : decode b_Store_versionStamp 48 = .ok (.iaload, 1) := by decide +kernel
theorem d_Store_versionStamp_49 : decode b_Store_versionStamp 49 = .ok (.ireturn, 1) := by decide +kernel
theorem d_Store_versionStamp_50 : decode b_Store_versionStamp 50 = .ok (.aload_n 1, 1) := by decide +kernel
theorem d_Store_versionStamp_51 : decode b_Store_versionStamp 51 = .ok (.getfield 273, 3) := by decide +kernel
theorem d_Store_versionStamp_54 : decode b_Store_versionStamp 54 = .ok (.iload_n 2, 1) := by decide +kernel
theorem d_Store_versionStamp_55 : decode b_Store_versionStamp 55 = .ok (.iaload, 1) := by decide +kernel
theorem d_Store_versionStamp_56 : decode b_Store_versionStamp 56 = .ok (.iconst 3, 1) := by decide +kernel
theorem d_Store_versionStamp_57 : decode b_Store_versionStamp 57 = .ok (.if_icmp .ne 12, 3) := by decide +kernel
theorem d_Store_versionStamp_60 : decode b_Store_versionStamp 60 = .ok (.aload_n 1, 1) := by decide +kernel
theorem d_Store_versionStamp_61 : decode b_Store_versionStamp 61 = .ok (.getfield 279, 3) := by decide +kernel
theorem d_Store_versionStamp_64 : decode b_Store_versionStamp 64 = .ok (.iload_n 2, 1) := by decide +kernel
theorem d_Store_versionStamp_65 : decode b_Store_versionStamp 65 = .ok (.iaload, 1) := by decide +kernel
theorem d_Store_versionStamp_66 : decode b_Store_versionStamp 66 = .ok (.goto 4, 3) := by decide +kernel
theorem d_Store_versionStamp_69 : decode b_Store_versionStamp 69 = .ok (.iconst (-1), 1) := by decide +kernel
theorem d_Store_versionStamp_70 : decode b_Store_versionStamp 70 = .ok (.ireturn, 1) := by decide +kernel
def B_Store_versionStamp_31 (R : Nat → Nat → Nat) (I : St) : Option Int32 := some (-1 : Int32)
set_option maxHeartbeats 4000000 in
set_option maxRecDepth 100000 in
theorem b_Store_versionStamp_31 {p : Program} {l : Launch} {e : Env} {s : State} {m : MethodId} {args : Array Value} {below : List Frame} {meth : Method} {c : Code} {g : Sg} {R : Nat → Nat → Nat} {I : St} {v : Int32} (cx : Cx p s m args meth c g R R_Store b_Store_versionStamp 5 (some .int)) : ∀ (H : Heap) (locs : List Loc) (ls : Array Slot), B_Store_versionStamp_31 R I = some v → wW g R I H → va_S (· ∈ g.L) s.heap H locs → lv_has ls 5 [] → W p l e { frames := 1, cells := 0, slots := 0, locals := 21 } s m args below meth c H locs 0 0 (MQ below (Qi g R v I) args s 0 0 (· ∈ g.L)) (F0 m 31 ls []) := by
  have ⟨hx, hb, hml, hr, hlk, hown, hall, hT, hK⟩ := cx
  intro H locs ls h hP hS hl
  unfold B_Store_versionStamp_31 at h
  refine lv_iconst (v := (-1)) hx hb d_Store_versionStamp_31 (by decide) ?_
  obtain rfl := Option.some.inj h
  exact gg_iret hx hb hr hlk hK hP hS d_Store_versionStamp_32
def F_Store_versionStamp (R : Nat → Nat → Nat) (a0 : Nat) (a1 : Nat) (x2 : Int32) (x3 : Int32) (I : St) : Option Int32 := (chk x2 60 ((ob (F_Store_isTransaction R a0 (I (R a1 3) x2.toNatClampNeg) I) (fun v11 => (if v11 = 0 then B_Store_versionStamp_31 R I else (chk (I (R a1 3) x2.toNatClampNeg) 16 ((ob (F_Txn_writes R (R (R a0 2) (I (R a1 3) x2.toNatClampNeg).toNatClampNeg) x3 I) (fun v25 => (if v25 = 0 then B_Store_versionStamp_31 R I else (chk x2 60 ((if (I (R a1 2) x2.toNatClampNeg) = (2 : Int32) then (chk x2 60 (some (I (R a1 1) x2.toNatClampNeg))) else (chk x2 60 ((if (I (R a1 2) x2.toNatClampNeg) = (3 : Int32) then (chk x2 60 (some (I (R a1 4) x2.toNatClampNeg))) else some (-1 : Int32)))))))))))))))))
set_option maxHeartbeats 4000000 in
set_option maxRecDepth 100000 in
theorem c_Store_versionStamp (l : Launch) {g : Sg} {R : Nat → Nat → Nat} (hT : Ty g R) {a0 : Nat} (o0 : okA g 4 0 a0) {a1 : Nat} (o1 : okA g 1 0 a1) {x2 : Int32} {x3 : Int32} {I : St} {v : Int32} (h : F_Store_versionStamp R a0 a1 x2 x3 I = some v) : Cti l g R y_Store_versionStamp w_Store_versionStamp 1 21 [.ref a0, .ref a1, .int x2, .int x3] I v I := by
  unfold Cti
  refine Met.ofW (cc := b_Store_versionStamp) (maxL := 5) (ret := (some .int)) (by decide) rfl ?_
  intro p e s m args below meth c s₁ B hml hv
  obtain ⟨rfl, hP, hK⟩ := hv
  have hts := atoms_spec (ws := w_Store_versionStamp) B.pre
  have hall : ∀ w ∈ w_all, w.before _ s = true := fun w hw => hts w (List.mem_cons_of_mem _ hw)
  have hown : s.vm.findClass R_Store = some m.cls := findClass_of_methodNamed B.named
  have hx := B.exec
  have hb := B.bytes
  have hr := B.returns
  have hlk := B.notSynchronized
  have cx : Cx p s m _ meth c g R R_Store b_Store_versionStamp 5 (some .int) := ⟨hx, hb, hml, hr, hlk, hown, hall, hT, hK⟩
  have hl := lv_entry ([.ref a0, .ref a1, .int x2, .int x3]) (n := 5) (Nat.le_of_ble_eq_true rfl)
  rw [lg_entry_eq]
  generalize (lg_sl ([.ref a0, .ref a1, .int x2, .int x3]) ++ List.replicate (5 - (lg_sl ([.ref a0, .ref a1, .int x2, .int x3])).length) Slot.unset).toArray = ls at hl ⊢
  have hl : lv_has ls 5 [(0, .ref a0), (1, .ref a1), (2, .int x2), (3, .int x3)] := hl
  have hS : va_S (· ∈ g.L) s.heap s.heap [] := va_S.rf
  unfold F_Store_versionStamp at h
  refine lv_aload_n hx hb d_Store_versionStamp_0 rfl (lv_at hl 1 rfl) ?_
  refine gg_get (C := R_Log) (T := F_Log) (N := 7) (ci := 1) hx hb hall i_Log hown hK hP o1.1 (wE_1 o1.2) rfl 3 (by decide) (hall _ m_214) (fun _ h9 => h9) rfl d_Store_versionStamp_1 ?_
  have o_1 : okA g 6 60 (R a1 3) := ty_Log_3 hT o1
  refine lv_iload_n hx hb d_Store_versionStamp_4 rfl (lv_at hl 2 rfl) ?_
  obtain ⟨hi5, h⟩ := chk_el h
  refine gg_iald hx hb hK hP o_1 hi5 d_Store_versionStamp_5 ?_
  refine lv_istore (lv' := [(4, .int (I (R a1 3) x2.toNatClampNeg)), (0, .ref a0), (1, .ref a1), (2, .int x2), (3, .int x3)]) hx hb d_Store_versionStamp_6 hl (Nat.le_of_ble_eq_true rfl) rfl (fun ls hl => ?_)
  refine lv_aload_n hx hb d_Store_versionStamp_8 rfl (lv_at hl 1 rfl) ?_
  refine lv_iload hx hb d_Store_versionStamp_9 (lv_at hl 0 rfl) ?_
  obtain ⟨v11, e11, h⟩ := ob_el h
  refine gg_Vi (As := [.int (I (R a1 3) x2.toNatClampNeg)]) (rest := []) (ci := 4) (C := R_Store) (T := F_Store) (N := 4) ⟨hx, hb, hml, hown, hall⟩ (c_Store_isTransaction l hT o0 e11) (cwV 1 hall (gV m_215 m_216 m_217 m_6 m_160) rfl rfl rfl (by decide +kernel) ⟨Nat.le_of_ble_eq_true rfl, Nat.le_of_ble_eq_true rfl⟩) hK hP hS o0.1 (wE_4 o0.2) rfl rfl hl.1 rfl (Nat.le_of_ble_eq_true rfl) d_Store_versionStamp_11 (fun H locs hP hS => ?_)
  refine lv_if_eq hx hb d_Store_versionStamp_14 rfl (fun hc => ?_) (fun hc => ?_)
  · replace h := i_pos hc h
    exact b_Store_versionStamp_31 cx _ _ _ h hP hS (lv_sub hl [] rfl)
  · replace h := i_neg hc h
    refine lv_aload_n hx hb d_Store_versionStamp_17 rfl (lv_at hl 1 rfl) ?_
    refine gg_get (C := R_Store) (T := F_Store) (N := 4) (ci := 4) hx hb hall i_Store hown hK hP o0.1 (wE_4 o0.2) rfl 2 (by decide) (hall _ m_202) (fun _ h9 => h9) rfl d_Store_versionStamp_18 ?_
    have o_18 : okA g 9 16 (R a0 2) := ty_Store_2 hT o0
    refine lv_iload hx hb d_Store_versionStamp_21 (lv_at hl 0 rfl) ?_
    obtain ⟨hi23, h⟩ := chk_el h
    refine gg_tald hx hb hK hP o_18 hi23 d_Store_versionStamp_23 ?_
    have o_23 : okA g 3 0 (R (R a0 2) (I (R a1 3) x2.toNatClampNeg).toNatClampNeg) := ty_9 hT o_18 _
    refine lv_iload_n hx hb d_Store_versionStamp_24 rfl (lv_at hl 4 rfl) ?_
    obtain ⟨v25, e25, h⟩ := ob_el h
    refine gg_Vi (As := [.int x3]) (rest := []) (ci := 3) (C := R_Txn) (T := F_Txn) (N := 5) ⟨hx, hb, hml, hown, hall⟩ (c_Txn_writes l hT o_23 e25) (cwV 1 hall (gV m_203 m_204 m_205 m_180 m_163) rfl rfl rfl (by decide +kernel) ⟨Nat.le_of_ble_eq_true rfl, Nat.le_of_ble_eq_true rfl⟩) hK hP hS o_23.1 (wE_3 o_23.2) rfl rfl hl.1 rfl (Nat.le_of_ble_eq_true rfl) d_Store_versionStamp_25 (fun H locs hP hS => ?_)
    refine lv_if_ne hx hb d_Store_versionStamp_28 rfl (fun hc => ?_) (fun hc => ?_)
    · replace h := i_neg hc h
      refine lv_aload_n hx hb d_Store_versionStamp_33 rfl (lv_at hl 2 rfl) ?_
      refine gg_get (C := R_Log) (T := F_Log) (N := 7) (ci := 1) hx hb hall i_Log hown hK hP o1.1 (wE_1 o1.2) rfl 2 (by decide) (hall _ m_218) (fun _ h9 => h9) rfl d_Store_versionStamp_34 ?_
      have o_34 : okA g 6 60 (R a1 2) := ty_Log_2 hT o1
      refine lv_iload_n hx hb d_Store_versionStamp_37 rfl (lv_at hl 3 rfl) ?_
      obtain ⟨hi38, h⟩ := chk_el h
      refine gg_iald hx hb hK hP o_34 hi38 d_Store_versionStamp_38 ?_
      refine lv_iconst (v := 2) hx hb d_Store_versionStamp_39 (by decide) ?_
      refine lv_icmp_ne hx hb d_Store_versionStamp_40 rfl (fun hc => ?_) (fun hc => ?_)
      · replace h := i_neg hc h
        refine lv_aload_n hx hb d_Store_versionStamp_50 rfl (lv_at hl 2 rfl) ?_
        refine gg_get (C := R_Log) (T := F_Log) (N := 7) (ci := 1) hx hb hall i_Log hown hK hP o1.1 (wE_1 o1.2) rfl 2 (by decide) (hall _ m_218) (fun _ h9 => h9) rfl d_Store_versionStamp_51 ?_
        have o_51 : okA g 6 60 (R a1 2) := ty_Log_2 hT o1
        refine lv_iload_n hx hb d_Store_versionStamp_54 rfl (lv_at hl 3 rfl) ?_
        obtain ⟨hi55, h⟩ := chk_el h
        refine gg_iald hx hb hK hP o_51 hi55 d_Store_versionStamp_55 ?_
        refine lv_iconst (v := 3) hx hb d_Store_versionStamp_56 (by decide) ?_
        refine lv_icmp_ne hx hb d_Store_versionStamp_57 rfl (fun hc => ?_) (fun hc => ?_)
        · replace h := i_neg hc h
          refine lv_iconst (v := (-1)) hx hb d_Store_versionStamp_69 (by decide) ?_
          obtain rfl := Option.some.inj h
          exact gg_iret hx hb hr hlk hK hP hS d_Store_versionStamp_70
        · replace h := i_pos hc h
          refine lv_aload_n hx hb d_Store_versionStamp_60 rfl (lv_at hl 2 rfl) ?_
          refine gg_get (C := R_Log) (T := F_Log) (N := 7) (ci := 1) hx hb hall i_Log hown hK hP o1.1 (wE_1 o1.2) rfl 4 (by decide) (hall _ m_219) (fun _ h9 => h9) rfl d_Store_versionStamp_61 ?_
          have o_61 : okA g 6 60 (R a1 4) := ty_Log_4 hT o1
          refine lv_iload_n hx hb d_Store_versionStamp_64 rfl (lv_at hl 3 rfl) ?_
          obtain ⟨hi65, h⟩ := chk_el h
          refine gg_iald hx hb hK hP o_61 hi65 d_Store_versionStamp_65 ?_
          refine lv_goto hx hb d_Store_versionStamp_66 rfl ?_
          obtain rfl := Option.some.inj h
          exact gg_iret hx hb hr hlk hK hP hS d_Store_versionStamp_70
      · replace h := i_pos hc h
        refine lv_aload_n hx hb d_Store_versionStamp_43 rfl (lv_at hl 2 rfl) ?_
        refine gg_get (C := R_Log) (T := F_Log) (N := 7) (ci := 1) hx hb hall i_Log hown hK hP o1.1 (wE_1 o1.2) rfl 1 (by decide) (hall _ m_220) (fun _ h9 => h9) rfl d_Store_versionStamp_44 ?_
        have o_44 : okA g 6 60 (R a1 1) := ty_Log_1 hT o1
        refine lv_iload_n hx hb d_Store_versionStamp_47 rfl (lv_at hl 3 rfl) ?_
        obtain ⟨hi48, h⟩ := chk_el h
        refine gg_iald hx hb hK hP o_44 hi48 d_Store_versionStamp_48 ?_
        obtain rfl := Option.some.inj h
        exact gg_iret hx hb hr hlk hK hP hS d_Store_versionStamp_49
    · replace h := i_pos hc h
      exact b_Store_versionStamp_31 cx _ _ _ h hP hS (lv_sub hl [] rfl)
abbrev b_Store_valueAt : ByteArray := prog_1_method_47_code
def y_Store_valueAt : MethodName := ⟨"StampedStore", "valueAt", "(LStampedStore$Log;II)I"⟩
def w_Store_valueAt : List Cond := .code y_Store_valueAt b_Store_valueAt 6 (some .int) :: w_all
theorem d_Store_valueAt_0 : decode b_Store_valueAt 0 = .ok (.aload_n 1, 1) := by decide +kernel
theorem d_Store_valueAt_1 : decode b_Store_valueAt 1 = .ok (.getfield 113, 3) := by decide +kernel
theorem d_Store_valueAt_4 : decode b_Store_valueAt 4 = .ok (.iconst 1, 1) := by decide +kernel
theorem d_Store_valueAt_5 : decode b_Store_valueAt 5 = .ok (.isub, 1) := by decide +kernel
theorem d_Store_valueAt_6 : decode b_Store_valueAt 6 = .ok (.istore 4, 2) := by decide +kernel
theorem d_Store_valueAt_8 : decode b_Store_valueAt 8 = .ok (.iload 4, 2) := by decide +kernel
theorem d_Store_valueAt_10 : decode b_Store_valueAt 10 = .ok (.ifCond .lt 49, 3) := by decide +kernel
theorem d_Store_valueAt_13 : decode b_Store_valueAt 13 = .ok (.aload_n 0, 1) := by decide +kernel
theorem d_Store_valueAt_14 : decode b_Store_valueAt 14 = .ok (.aload_n 1, 1) := by decide +kernel
theorem d_Store_valueAt_15 : decode b_Store_valueAt 15 = .ok (.iload 4, 2) := by decide +kernel
theorem d_Store_valueAt_17 : decode b_Store_valueAt 17 = .ok (.iload_n 2, 1) := by decide +kernel
theorem d_Store_valueAt_18 : decode b_Store_valueAt 18 = .ok (.invokevirtual 282, 3) := by decide +kernel
theorem d_Store_valueAt_21 : decode b_Store_valueAt 21 = .ok (.istore 5, 2) := by decide +kernel
theorem d_Store_valueAt_23 : decode b_Store_valueAt 23 = .ok (.iload 5, 2) := by decide +kernel
theorem d_Store_valueAt_25 : decode b_Store_valueAt 25 = .ok (.iconst (-1), 1) := by decide +kernel
theorem d_Store_valueAt_26 : decode b_Store_valueAt 26 = .ok (.if_icmp .eq 27, 3) := by decide +kernel
theorem d_Store_valueAt_29 : decode b_Store_valueAt 29 = .ok (.iload 5, 2) := by decide +kernel
theorem d_Store_valueAt_31 : decode b_Store_valueAt 31 = .ok (.iload_n 3, 1) := by decide +kernel
theorem d_Store_valueAt_32 : decode b_Store_valueAt 32 = .ok (.if_icmp .gt 21, 3) := by decide +kernel
theorem d_Store_valueAt_35 : decode b_Store_valueAt 35 = .ok (.aload_n 0, 1) := by decide +kernel
theorem d_Store_valueAt_36 : decode b_Store_valueAt 36 = .ok (.getfield 17, 3) := by decide +kernel
theorem d_Store_valueAt_39 : decode b_Store_valueAt 39 = .ok (.aload_n 1, 1) := by decide +kernel
theorem d_Store_valueAt_40 : decode b_Store_valueAt 40 = .ok (.getfield 270, 3) := by decide +kernel
theorem d_Store_valueAt_43 : decode b_Store_valueAt 43 = .ok (.iload 4, 2) := by decide +kernel
theorem d_Store_valueAt_45 : decode b_Store_valueAt 45 = .ok (.iaload, 1) := by decide +kernel
theorem d_Store_valueAt_46 : decode b_Store_valueAt 46 = .ok (.aaload, 1) := by decide +kernel
theorem d_Store_valueAt_47 : decode b_Store_valueAt 47 = .ok (.getfield 134, 3) := by decide +kernel
theorem d_Store_valueAt_50 : decode b_Store_valueAt 50 = .ok (.iload_n 2, 1) := by decide +kernel
theorem d_Store_valueAt_51 : decode b_Store_valueAt 51 = .ok (.iaload, 1) := by decide +kernel
theorem d_Store_valueAt_52 : decode b_Store_valueAt 52 = .ok (.ireturn, 1) := by decide +kernel
theorem d_Store_valueAt_53 : decode b_Store_valueAt 53 = .ok (.iinc 4 (-1), 3) := by decide +kernel
theorem d_Store_valueAt_56 : decode b_Store_valueAt 56 = .ok (.goto (-48), 3) := by decide +kernel
theorem d_Store_valueAt_59 : decode b_Store_valueAt 59 = .ok (.iconst 0, 1) := by decide +kernel
theorem d_Store_valueAt_60 : decode b_Store_valueAt 60 = .ok (.ireturn, 1) := by decide +kernel
def B_Store_valueAt_53 (R : Nat → Nat → Nat) (I : St) (k8 : Nat → Nat → Int32 → Int32 → Int32 → Option Int32) (a0 : Nat) (a1 : Nat) (x2 : Int32) (x3 : Int32) (x4 : Int32) : Option Int32 := k8 a0 a1 x2 x3 (x4 + (-1))
set_option maxHeartbeats 4000000 in
set_option maxRecDepth 100000 in
theorem b_Store_valueAt_53 {p : Program} {l : Launch} {e : Env} {s : State} {m : MethodId} {args : Array Value} {below : List Frame} {meth : Method} {c : Code} {g : Sg} {R : Nat → Nat → Nat} {I : St} {v : Int32} (cx : Cx p s m args meth c g R R_Store b_Store_valueAt 6 (some .int)) {k8 : Nat → Nat → Int32 → Int32 → Int32 → Option Int32} (hk8 : ∀ (a0 : Nat) (a1 : Nat) (x2 : Int32) (x3 : Int32) (x4 : Int32) (H : Heap) (locs : List Loc) (ls : Array Slot), okA g 4 0 a0 → okA g 1 0 a1 → k8 a0 a1 x2 x3 x4 = some v → wW g R I H → va_S (· ∈ g.L) s.heap H locs → lv_has ls 6 [(0, .ref a0), (1, .ref a1), (2, .int x2), (3, .int x3), (4, .int x4)] → W p l e { frames := 2, cells := 0, slots := 0, locals := 45 } s m args below meth c H locs 0 0 (MQ below (Qi g R v I) args s 0 0 (· ∈ g.L)) (F0 m 8 ls [])) : ∀ (a0 : Nat) (a1 : Nat) (x2 : Int32) (x3 : Int32) (x4 : Int32) (H : Heap) (locs : List Loc) (ls : Array Slot), okA g 4 0 a0 → okA g 1 0 a1 → B_Store_valueAt_53 R I k8 a0 a1 x2 x3 x4 = some v → wW g R I H → va_S (· ∈ g.L) s.heap H locs → lv_has ls 6 [(0, .ref a0), (1, .ref a1), (2, .int x2), (3, .int x3), (4, .int x4)] → W p l e { frames := 2, cells := 0, slots := 0, locals := 45 } s m args below meth c H locs 0 0 (MQ below (Qi g R v I) args s 0 0 (· ∈ g.L)) (F0 m 53 ls []) := by
  have ⟨hx, hb, hml, hr, hlk, hown, hall, hT, hK⟩ := cx
  intro a0 a1 x2 x3 x4 H locs ls o0 o1 h hP hS hl
  unfold B_Store_valueAt_53 at h
  refine lv_iinc (k := 4) (v := (x4 + (-1))) (lv' := [(4, .int (x4 + (-1))), (0, .ref a0), (1, .ref a1), (2, .int x2), (3, .int x3)]) hx hb d_Store_valueAt_53 hl rfl (by rw [show Int32.ofInt (-1) = (-1 : Int32) from by decide]) (Nat.le_of_ble_eq_true rfl) rfl (fun ls hl => ?_)
  refine lv_goto hx hb d_Store_valueAt_56 rfl ?_
  exact hk8 _ _ _ _ _ _ _ _ o0 o1 h hP hS (lv_sub hl [1, 2, 3, 4, 0] rfl)
def B_Store_valueAt_8 (R : Nat → Nat → Nat) (I : St) : Nat → Nat → Nat → Int32 → Int32 → Int32 → Option Int32
  | 0, _, _, _, _, _ => none
  | f + 1, a0, a1, x2, x3, x4 => (if x4 < 0 then some (0 : Int32) else (ob (F_Store_versionStamp R a0 a1 x4 x2 I) (fun v18 => (if v18 = (-1 : Int32) then B_Store_valueAt_53 R I (B_Store_valueAt_8 R I f) a0 a1 x2 x3 x4 else (if x3 < v18 then B_Store_valueAt_53 R I (B_Store_valueAt_8 R I f) a0 a1 x2 x3 x4 else (chk x4 60 ((chk (I (R a1 3) x4.toNatClampNeg) 16 ((chk x2 8 (some (I (R (R (R a0 2) (I (R a1 3) x4.toNatClampNeg).toNatClampNeg) 1) x2.toNatClampNeg))))))))))))
set_option maxHeartbeats 4000000 in
set_option maxRecDepth 100000 in
theorem b_Store_valueAt_8 {p : Program} {l : Launch} {e : Env} {s : State} {m : MethodId} {args : Array Value} {below : List Frame} {meth : Method} {c : Code} {g : Sg} {R : Nat → Nat → Nat} {I : St} {v : Int32} (cx : Cx p s m args meth c g R R_Store b_Store_valueAt 6 (some .int)) (f : Nat) : ∀ (a0 : Nat) (a1 : Nat) (x2 : Int32) (x3 : Int32) (x4 : Int32) (H : Heap) (locs : List Loc) (ls : Array Slot), okA g 4 0 a0 → okA g 1 0 a1 → B_Store_valueAt_8 R I f a0 a1 x2 x3 x4 = some v → wW g R I H → va_S (· ∈ g.L) s.heap H locs → lv_has ls 6 [(0, .ref a0), (1, .ref a1), (2, .int x2), (3, .int x3), (4, .int x4)] → W p l e { frames := 2, cells := 0, slots := 0, locals := 45 } s m args below meth c H locs 0 0 (MQ below (Qi g R v I) args s 0 0 (· ∈ g.L)) (F0 m 8 ls []) := by
  have ⟨hx, hb, hml, hr, hlk, hown, hall, hT, hK⟩ := cx
  induction f with
  | zero => intro a0 a1 x2 x3 x4 H locs ls o0 o1 h; unfold B_Store_valueAt_8 at h; cases h
  | succ f ih =>
    intro a0 a1 x2 x3 x4 H locs ls o0 o1 h hP hS hl
    unfold B_Store_valueAt_8 at h
    refine lv_iload hx hb d_Store_valueAt_8 (lv_at hl 4 rfl) ?_
    refine lv_if_lt hx hb d_Store_valueAt_10 rfl (fun hc => ?_) (fun hc => ?_)
    · replace h := i_pos hc h
      refine lv_iconst (v := 0) hx hb d_Store_valueAt_59 (by decide) ?_
      obtain rfl := Option.some.inj h
      exact gg_iret hx hb hr hlk hK hP hS d_Store_valueAt_60
    · replace h := i_neg hc h
      refine lv_aload_n hx hb d_Store_valueAt_13 rfl (lv_at hl 0 rfl) ?_
      refine lv_aload_n hx hb d_Store_valueAt_14 rfl (lv_at hl 1 rfl) ?_
      refine lv_iload hx hb d_Store_valueAt_15 (lv_at hl 4 rfl) ?_
      refine lv_iload_n hx hb d_Store_valueAt_17 rfl (lv_at hl 2 rfl) ?_
      obtain ⟨v18, e18, h⟩ := ob_el h
      refine gg_Vi (As := [.ref a1, .int x4, .int x2]) (rest := []) (ci := 4) (C := R_Store) (T := F_Store) (N := 4) ⟨hx, hb, hml, hown, hall⟩ (c_Store_versionStamp l hT o0 o1 e18) (cwV 3 hall (gV m_222 m_223 m_224 m_6 m_221) rfl rfl rfl (by decide +kernel) ⟨Nat.le_of_ble_eq_true rfl, Nat.le_of_ble_eq_true rfl⟩) hK hP hS o0.1 (wE_4 o0.2) rfl rfl hl.1 rfl (Nat.le_of_ble_eq_true rfl) d_Store_valueAt_18 (fun H locs hP hS => ?_)
      refine lv_istore (lv' := [(5, .int v18), (0, .ref a0), (1, .ref a1), (2, .int x2), (3, .int x3), (4, .int x4)]) hx hb d_Store_valueAt_21 hl (Nat.le_of_ble_eq_true rfl) rfl (fun ls hl => ?_)
      refine lv_iload hx hb d_Store_valueAt_23 (lv_at hl 0 rfl) ?_
      refine lv_iconst (v := (-1)) hx hb d_Store_valueAt_25 (by decide) ?_
      refine lv_icmp_eq hx hb d_Store_valueAt_26 rfl (fun hc => ?_) (fun hc => ?_)
      · replace h := i_pos hc h
        exact b_Store_valueAt_53 cx ih _ _ _ _ _ _ _ _ o0 o1 h hP hS (lv_sub hl [1, 2, 3, 4, 5] rfl)
      · replace h := i_neg hc h
        refine lv_iload hx hb d_Store_valueAt_29 (lv_at hl 0 rfl) ?_
        refine lv_iload_n hx hb d_Store_valueAt_31 rfl (lv_at hl 4 rfl) ?_
        refine lv_icmp_gt hx hb d_Store_valueAt_32 rfl (fun hc => ?_) (fun hc => ?_)
        · replace h := i_pos hc h
          exact b_Store_valueAt_53 cx ih _ _ _ _ _ _ _ _ o0 o1 h hP hS (lv_sub hl [1, 2, 3, 4, 5] rfl)
        · replace h := i_neg hc h
          refine lv_aload_n hx hb d_Store_valueAt_35 rfl (lv_at hl 1 rfl) ?_
          refine gg_get (C := R_Store) (T := F_Store) (N := 4) (ci := 4) hx hb hall i_Store hown hK hP o0.1 (wE_4 o0.2) rfl 2 (by decide) (hall _ m_202) (fun _ h9 => h9) rfl d_Store_valueAt_36 ?_
          have o_36 : okA g 9 16 (R a0 2) := ty_Store_2 hT o0
          refine lv_aload_n hx hb d_Store_valueAt_39 rfl (lv_at hl 2 rfl) ?_
          refine gg_get (C := R_Log) (T := F_Log) (N := 7) (ci := 1) hx hb hall i_Log hown hK hP o1.1 (wE_1 o1.2) rfl 3 (by decide) (hall _ m_214) (fun _ h9 => h9) rfl d_Store_valueAt_40 ?_
          have o_40 : okA g 6 60 (R a1 3) := ty_Log_3 hT o1
          refine lv_iload hx hb d_Store_valueAt_43 (lv_at hl 5 rfl) ?_
          obtain ⟨hi45, h⟩ := chk_el h
          refine gg_iald hx hb hK hP o_40 hi45 d_Store_valueAt_45 ?_
          obtain ⟨hi46, h⟩ := chk_el h
          refine gg_tald hx hb hK hP o_36 hi46 d_Store_valueAt_46 ?_
          have o_46 : okA g 3 0 (R (R a0 2) (I (R a1 3) x4.toNatClampNeg).toNatClampNeg) := ty_9 hT o_36 _
          refine gg_get (C := R_Txn) (T := F_Txn) (N := 5) (ci := 3) hx hb hall i_Txn hown hK hP o_46.1 (wE_3 o_46.2) rfl 1 (by decide) (hall _ m_225) (fun _ h9 => h9) rfl d_Store_valueAt_47 ?_
          have o_47 : okA g 6 8 (R (R (R a0 2) (I (R a1 3) x4.toNatClampNeg).toNatClampNeg) 1) := ty_Txn_1 hT o_46
          refine lv_iload_n hx hb d_Store_valueAt_50 rfl (lv_at hl 3 rfl) ?_
          obtain ⟨hi51, h⟩ := chk_el h
          refine gg_iald hx hb hK hP o_47 hi51 d_Store_valueAt_51 ?_
          obtain rfl := Option.some.inj h
          exact gg_iret hx hb hr hlk hK hP hS d_Store_valueAt_52
def F_Store_valueAt (R : Nat → Nat → Nat) (a0 : Nat) (a1 : Nat) (x2 : Int32) (x3 : Int32) (I : St) : Option Int32 := B_Store_valueAt_8 R I 100 a0 a1 x2 x3 ((I a1 6) - (1 : Int32))
set_option maxHeartbeats 4000000 in
set_option maxRecDepth 100000 in
theorem c_Store_valueAt (l : Launch) {g : Sg} {R : Nat → Nat → Nat} (hT : Ty g R) {a0 : Nat} (o0 : okA g 4 0 a0) {a1 : Nat} (o1 : okA g 1 0 a1) {x2 : Int32} {x3 : Int32} {I : St} {v : Int32} (h : F_Store_valueAt R a0 a1 x2 x3 I = some v) : Cti l g R y_Store_valueAt w_Store_valueAt 2 45 [.ref a0, .ref a1, .int x2, .int x3] I v I := by
  unfold Cti
  refine Met.ofW (cc := b_Store_valueAt) (maxL := 6) (ret := (some .int)) (by decide) rfl ?_
  intro p e s m args below meth c s₁ B hml hv
  obtain ⟨rfl, hP, hK⟩ := hv
  have hts := atoms_spec (ws := w_Store_valueAt) B.pre
  have hall : ∀ w ∈ w_all, w.before _ s = true := fun w hw => hts w (List.mem_cons_of_mem _ hw)
  have hown : s.vm.findClass R_Store = some m.cls := findClass_of_methodNamed B.named
  have hx := B.exec
  have hb := B.bytes
  have hr := B.returns
  have hlk := B.notSynchronized
  have cx : Cx p s m _ meth c g R R_Store b_Store_valueAt 6 (some .int) := ⟨hx, hb, hml, hr, hlk, hown, hall, hT, hK⟩
  have hl := lv_entry ([.ref a0, .ref a1, .int x2, .int x3]) (n := 6) (Nat.le_of_ble_eq_true rfl)
  rw [lg_entry_eq]
  generalize (lg_sl ([.ref a0, .ref a1, .int x2, .int x3]) ++ List.replicate (6 - (lg_sl ([.ref a0, .ref a1, .int x2, .int x3])).length) Slot.unset).toArray = ls at hl ⊢
  have hl : lv_has ls 6 [(0, .ref a0), (1, .ref a1), (2, .int x2), (3, .int x3)] := hl
  have hS : va_S (· ∈ g.L) s.heap s.heap [] := va_S.rf
  unfold F_Store_valueAt at h
  refine lv_aload_n hx hb d_Store_valueAt_0 rfl (lv_at hl 1 rfl) ?_
  refine gg_get (C := R_Log) (T := F_Log) (N := 7) (ci := 1) hx hb hall i_Log hown hK hP o1.1 (wE_1 o1.2) rfl 6 (by decide) (hall _ m_156) (fun _ h9 => h9) rfl d_Store_valueAt_1 ?_
  refine lv_iconst (v := 1) hx hb d_Store_valueAt_4 (by decide) ?_
  refine lv_isub hx hb d_Store_valueAt_5 ?_
  refine lv_istore (lv' := [(4, .int ((I a1 6) - (1 : Int32))), (0, .ref a0), (1, .ref a1), (2, .int x2), (3, .int x3)]) hx hb d_Store_valueAt_6 hl (Nat.le_of_ble_eq_true rfl) rfl (fun ls hl => ?_)
  exact b_Store_valueAt_8 cx 100 _ _ _ _ _ _ _ _ o0 o1 h hP hS (lv_sub hl [1, 2, 3, 4, 0] rfl)
abbrev b_Store_read : ByteArray := prog_1_method_10_code
def y_Store_read : MethodName := ⟨"StampedStore", "read", "(II)I"⟩
def w_Store_read : List Cond := .code y_Store_read b_Store_read 5 (some .int) :: w_all
theorem d_Store_read_0 : decode b_Store_read 0 = .ok (.aload_n 0, 1) := by decide +kernel
theorem d_Store_read_1 : decode b_Store_read 1 = .ok (.iload_n 1, 1) := by decide +kernel
theorem d_Store_read_2 : decode b_Store_read 2 = .ok (.invokevirtual 122, 3) := by decide +kernel
theorem d_Store_read_5 : decode b_Store_read 5 = .ok (.ifCond .eq 10, 3) := by decide +kernel
theorem d_Store_read_8 : decode b_Store_read 8 = .ok (.iload_n 2, 1) := by decide +kernel
theorem d_Store_read_9 : decode b_Store_read 9 = .ok (.invokestatic 125, 3) := by decide +kernel
theorem d_Store_read_12 : decode b_Store_read 12 = .ok (.ifCond .ne 5, 3) := by decide +kernel
theorem d_Store_read_15 : decode b_Store_read 15 = .ok (.iconst (-1), 1) := by decide +kernel
theorem d_Store_read_16 : decode b_Store_read 16 = .ok (.ireturn, 1) := by decide +kernel
theorem d_Store_read_17 : decode b_Store_read 17 = .ok (.aload_n 0, 1) := by decide +kernel
theorem d_Store_read_18 : decode b_Store_read 18 = .ok (.getfield 17, 3) := by decide +kernel
theorem d_Store_read_21 : decode b_Store_read 21 = .ok (.iload_n 1, 1) := by decide +kernel
theorem d_Store_read_22 : decode b_Store_read 22 = .ok (.aaload, 1) := by decide +kernel
theorem d_Store_read_23 : decode b_Store_read 23 = .ok (.astore_n 3, 1) := by decide +kernel
theorem d_Store_read_24 : decode b_Store_read 24 = .ok (.aload_n 3, 1) := by decide +kernel
theorem d_Store_read_25 : decode b_Store_read 25 = .ok (.getfield 128, 3) := by decide +kernel
theorem d_Store_read_28 : decode b_Store_read 28 = .ok (.ifCond .eq 6, 3) := by decide +kernel
theorem d_Store_read_31 : decode b_Store_read 31 = .ok (.bipush (-2), 2) := by decide +kernel
theorem d_Store_read_33 : decode b_Store_read 33 = .ok (.ireturn, 1) := by decide +kernel
theorem d_Store_read_34 : decode b_Store_read 34 = .ok (.aload_n 3, 1) := by decide +kernel
theorem d_Store_read_35 : decode b_Store_read 35 = .ok (.iload_n 2, 1) := by decide +kernel
theorem d_Store_read_36 : decode b_Store_read 36 = .ok (.invokevirtual 131, 3) := by decide +kernel
theorem d_Store_read_39 : decode b_Store_read 39 = .ok (.ifCond .eq 10, 3) := by decide +kernel
theorem d_Store_read_42 : decode b_Store_read 42 = .ok (.aload_n 3, 1) := by decide +kernel
theorem d_Store_read_43 : decode b_Store_read 43 = .ok (.getfield 134, 3) := by decide +kernel
theorem d_Store_read_46 : decode b_Store_read 46 = .ok (.iload_n 2, 1) := by decide +kernel
theorem d_Store_read_47 : decode b_Store_read 47 = .ok (.iaload, 1) := by decide +kernel
theorem d_Store_read_48 : decode b_Store_read 48 = .ok (.ireturn, 1) := by decide +kernel
theorem d_Store_read_49 : decode b_Store_read 49 = .ok (.aload_n 0, 1) := by decide +kernel
theorem d_Store_read_50 : decode b_Store_read 50 = .ok (.iload_n 2, 1) := by decide +kernel
theorem d_Store_read_51 : decode b_Store_read 51 = .ok (.invokestatic 138, 3) := by decide +kernel
theorem d_Store_read_54 : decode b_Store_read 54 = .ok (.invokevirtual 141, 3) := by decide +kernel
theorem d_Store_read_57 : decode b_Store_read 57 = .ok (.istore 4, 2) := by decide +kernel
theorem d_Store_read_59 : decode b_Store_read 59 = .ok (.iload 4, 2) := by decide +kernel
theorem d_Store_read_61 : decode b_Store_read 61 = .ok (.iconst (-1), 1) := by decide +kernel
theorem d_Store_read_62 : decode b_Store_read 62 = .ok (.if_icmp .ne 6, 3) := by decide +kernel
theorem d_Store_read_65 : decode b_Store_read 65 = .ok (.bipush (-3), 2) := by decide +kernel
theorem d_Store_read_67 : decode b_Store_read 67 = .ok (.ireturn, 1) := by decide +kernel
theorem d_Store_read_68 : decode b_Store_read 68 = .ok (.aload_n 0, 1) := by decide +kernel
theorem d_Store_read_69 : decode b_Store_read 69 = .ok (.aload_n 3, 1) := by decide +kernel
theorem d_Store_read_70 : decode b_Store_read 70 = .ok (.iload_n 2, 1) := by decide +kernel
theorem d_Store_read_71 : decode b_Store_read 71 = .ok (.invokestatic 138, 3) := by decide +kernel
theorem d_Store_read_74 : decode b_Store_read 74 = .ok (.invokevirtual 144, 3) := by decide +kernel
theorem d_Store_read_77 : decode b_Store_read 77 = .ok (.ifCond .eq 11, 3) := by decide +kernel
theorem d_Store_read_80 : decode b_Store_read 80 = .ok (.aload_n 3, 1) := by decide +kernel
theorem d_Store_read_81 : decode b_Store_read 81 = .ok (.iconst 4, 1) := by decide +kernel
theorem d_Store_read_82 : decode b_Store_read 82 = .ok (.putfield 128, 3) := by decide +kernel
theorem d_Store_read_85 : decode b_Store_read 85 = .ok (.bipush (-2), 2) := by decide +kernel
theorem d_Store_read_87 : decode b_Store_read 87 = .ok (.ireturn, 1) := by decide +kernel
theorem d_Store_read_88 : decode b_Store_read 88 = .ok (.aload_n 0, 1) := by decide +kernel
theorem d_Store_read_89 : decode b_Store_read 89 = .ok (.aload_n 0, 1) := by decide +kernel
theorem d_Store_read_90 : decode b_Store_read 90 = .ok (.getfield 11, 3) := by decide +kernel
theorem d_Store_read_93 : decode b_Store_read 93 = .ok (.iload 4, 2) := by decide +kernel
theorem d_Store_read_95 : decode b_Store_read 95 = .ok (.aaload, 1) := by decide +kernel
theorem d_Store_read_96 : decode b_Store_read 96 = .ok (.getfield 97, 3) := by decide +kernel
theorem d_Store_read_99 : decode b_Store_read 99 = .ok (.iload_n 2, 1) := by decide +kernel
theorem d_Store_read_100 : decode b_Store_read 100 = .ok (.invokevirtual 148, 3) := by decide +kernel
theorem d_Store_read_103 : decode b_Store_read 103 = .ok (.ifCond .eq 6, 3) := by decide +kernel
theorem d_Store_read_106 : decode b_Store_read 106 = .ok (.bipush (-4), 2) := by decide +kernel
theorem d_Store_read_108 : decode b_Store_read 108 = .ok (.ireturn, 1) := by decide +kernel
theorem d_Store_read_109 : decode b_Store_read 109 = .ok (.aload_n 3, 1) := by decide +kernel
theorem d_Store_read_110 : decode b_Store_read 110 = .ok (.iload_n 2, 1) := by decide +kernel
theorem d_Store_read_111 : decode b_Store_read 111 = .ok (.aload_n 0, 1) := by decide +kernel
theorem d_Store_read_112 : decode b_Store_read 112 = .ok (.getfield 11, 3) := by decide +kernel
theorem d_Store_read_115 : decode b_Store_read 115 = .ok (.iload 4, 2) := by decide +kernel
theorem d_Store_read_117 : decode b_Store_read 117 = .ok (.aaload, 1) := by decide +kernel
theorem d_Store_read_118 : decode b_Store_read 118 = .ok (.getfield 63, 3) := by decide +kernel
theorem d_Store_read_121 : decode b_Store_read 121 = .ok (.invokevirtual 152, 3) := by decide +kernel
theorem d_Store_read_124 : decode b_Store_read 124 = .ok (.aload_n 0, 1) := by decide +kernel
theorem d_Store_read_125 : decode b_Store_read 125 = .ok (.aload_n 0, 1) := by decide +kernel
theorem d_Store_read_126 : decode b_Store_read 126 = .ok (.getfield 11, 3) := by decide +kernel
theorem d_Store_read_129 : decode b_Store_read 129 = .ok (.iload 4, 2) := by decide +kernel
theorem d_Store_read_131 : decode b_Store_read 131 = .ok (.aaload, 1) := by decide +kernel
theorem d_Store_read_132 : decode b_Store_read 132 = .ok (.getfield 97, 3) := by decide +kernel
theorem d_Store_read_135 : decode b_Store_read 135 = .ok (.iload_n 2, 1) := by decide +kernel
theorem d_Store_read_136 : decode b_Store_read 136 = .ok (.ldc 156, 2) := by decide +kernel
theorem d_Store_read_138 : decode b_Store_read 138 = .ok (.invokevirtual 157, 3) := by decide +kernel
theorem d_Store_read_141 : decode b_Store_read 141 = .ok (.ireturn, 1) := by decide +kernel
def B_Store_read_15 (R : Nat → Nat → Nat) (I : St) : Option (Int32 × St) := some ((-1 : Int32), I)
set_option maxHeartbeats 4000000 in
set_option maxRecDepth 100000 in
theorem b_Store_read_15 {p : Program} {l : Launch} {e : Env} {s : State} {m : MethodId} {args : Array Value} {below : List Frame} {meth : Method} {c : Code} {g : Sg} {R : Nat → Nat → Nat} {J : St} {v : Int32} (cx : Cx p s m args meth c g R R_Store b_Store_read 5 (some .int)) : ∀ (I : St) (H : Heap) (locs : List Loc) (ls : Array Slot), B_Store_read_15 R I = some (v, J) → wW g R I H → va_S (· ∈ g.L) s.heap H locs → lv_has ls 5 [] → W p l e { frames := 5, cells := 0, slots := 0, locals := 111 } s m args below meth c H locs 0 0 (MQ below (Qi g R v J) args s 0 0 (· ∈ g.L)) (F0 m 15 ls []) := by
  have ⟨hx, hb, hml, hr, hlk, hown, hall, hT, hK⟩ := cx
  intro I H locs ls h hP hS hl
  unfold B_Store_read_15 at h
  refine lv_iconst (v := (-1)) hx hb d_Store_read_15 (by decide) ?_
  obtain ⟨rfl, rfl⟩ := rt_el h
  exact gg_iret hx hb hr hlk hK hP hS d_Store_read_16
def F_Store_read (R : Nat → Nat → Nat) (a0 : Nat) (x1 : Int32) (x2 : Int32) (I : St) : Option (Int32 × St) := (ob (F_Store_isTransaction R a0 x1 I) (fun v2 => (if v2 = 0 then B_Store_read_15 R I else (ob (F_Store_isKey R x2 I) (fun v9 => (if v9 = 0 then B_Store_read_15 R I else (chk x1 16 ((if (I (R (R a0 2) x1.toNatClampNeg) 3) = 0 then (ob (F_Txn_writes R (R (R a0 2) x1.toNatClampNeg) x2 I) (fun v36 => (if v36 = 0 then (ob (F_Store_groupOfKey R x2 I) (fun v51 => (ob (F_Store_readyNode R a0 v51 I) (fun v54 => (if v54 = (-1 : Int32) then some ((-3 : Int32), I) else (ob (F_Store_groupOfKey R x2 I) (fun v71 => (ob (F_Store_hasLostReads R a0 (R (R a0 2) x1.toNatClampNeg) v71 I) (fun v74 => (if v74 = 0 then (chk v54 6 ((ob (F_Store_isHeldForWriter R a0 (R (R (R a0 1) v54.toNatClampNeg) 2) x2 I) (fun v100 => (if v100 = 0 then (chk v54 6 ((ob (F_Txn_noteRead R (R (R a0 2) x1.toNatClampNeg) x2 (I (R (R a0 1) v54.toNatClampNeg) 6) I) (fun I121 => (chk v54 6 ((ob (F_Store_valueAt R a0 (R (R (R a0 1) v54.toNatClampNeg) 2) x2 (2147483647 : Int32) I121) (fun v138 => some (v138, I121))))))))) else some ((-4 : Int32), I)))))) else (ap (up2 I (R (R a0 2) x1.toNatClampNeg) 3 (4 : Int32)) (fun I82 => some ((-2 : Int32), I82))))))))))))) else (chk x2 8 (some ((I (R (R (R a0 2) x1.toNatClampNeg) 1) x2.toNatClampNeg), I)))))) else some ((-2 : Int32), I))))))))))
set_option maxHeartbeats 4000000 in
set_option maxRecDepth 100000 in
theorem c_Store_read (l : Launch) {g : Sg} {R : Nat → Nat → Nat} (hT : Ty g R) {a0 : Nat} (o0 : okA g 4 0 a0) {x1 : Int32} {x2 : Int32} {I : St} {J : St} {v : Int32} (h : F_Store_read R a0 x1 x2 I = some (v, J)) : Cti l g R y_Store_read w_Store_read 5 111 [.ref a0, .int x1, .int x2] I v J := by
  unfold Cti
  refine Met.ofW (cc := b_Store_read) (maxL := 5) (ret := (some .int)) (by decide) rfl ?_
  intro p e s m args below meth c s₁ B hml hv
  obtain ⟨rfl, hP, hK⟩ := hv
  have hts := atoms_spec (ws := w_Store_read) B.pre
  have hall : ∀ w ∈ w_all, w.before _ s = true := fun w hw => hts w (List.mem_cons_of_mem _ hw)
  have hown : s.vm.findClass R_Store = some m.cls := findClass_of_methodNamed B.named
  have hx := B.exec
  have hb := B.bytes
  have hr := B.returns
  have hlk := B.notSynchronized
  have cx : Cx p s m _ meth c g R R_Store b_Store_read 5 (some .int) := ⟨hx, hb, hml, hr, hlk, hown, hall, hT, hK⟩
  have hl := lv_entry ([.ref a0, .int x1, .int x2]) (n := 5) (Nat.le_of_ble_eq_true rfl)
  rw [lg_entry_eq]
  generalize (lg_sl ([.ref a0, .int x1, .int x2]) ++ List.replicate (5 - (lg_sl ([.ref a0, .int x1, .int x2])).length) Slot.unset).toArray = ls at hl ⊢
  have hl : lv_has ls 5 [(0, .ref a0), (1, .int x1), (2, .int x2)] := hl
  have hS : va_S (· ∈ g.L) s.heap s.heap [] := va_S.rf
  unfold F_Store_read at h
  refine lv_aload_n hx hb d_Store_read_0 rfl (lv_at hl 0 rfl) ?_
  refine lv_iload_n hx hb d_Store_read_1 rfl (lv_at hl 1 rfl) ?_
  obtain ⟨v2, e2, h⟩ := ob_el h
  refine gg_Vi (As := [.int x1]) (rest := []) (ci := 4) (C := R_Store) (T := F_Store) (N := 4) ⟨hx, hb, hml, hown, hall⟩ (c_Store_isTransaction l hT o0 e2) (cwV 1 hall (gV m_215 m_216 m_217 m_6 m_160) rfl rfl rfl (by decide +kernel) ⟨Nat.le_of_ble_eq_true rfl, Nat.le_of_ble_eq_true rfl⟩) hK hP hS o0.1 (wE_4 o0.2) rfl rfl hl.1 rfl (Nat.le_of_ble_eq_true rfl) d_Store_read_2 (fun H locs hP hS => ?_)
  refine lv_if_eq hx hb d_Store_read_5 rfl (fun hc => ?_) (fun hc => ?_)
  · replace h := i_pos hc h
    exact b_Store_read_15 cx _ _ _ _ h hP hS (lv_sub hl [] rfl)
  · replace h := i_neg hc h
    refine lv_iload_n hx hb d_Store_read_8 rfl (lv_at hl 2 rfl) ?_
    obtain ⟨v9, e9, h⟩ := ob_el h
    refine gg_Si (As := [.int x2]) (rest := []) ⟨hx, hb, hml, hown, hall⟩ (c_Store_isKey l hT e9) (cwS 1 hall (gS m_227 m_228 m_6 m_161) rfl rfl rfl (by decide +kernel) ⟨Nat.le_of_ble_eq_true rfl, Nat.le_of_ble_eq_true rfl⟩) hK hP hS rfl hl.1 rfl (Nat.le_of_ble_eq_true rfl) d_Store_read_9 (fun H locs hP hS => ?_)
    refine lv_if_ne hx hb d_Store_read_12 rfl (fun hc => ?_) (fun hc => ?_)
    · replace h := i_neg hc h
      refine lv_aload_n hx hb d_Store_read_17 rfl (lv_at hl 0 rfl) ?_
      refine gg_get (C := R_Store) (T := F_Store) (N := 4) (ci := 4) hx hb hall i_Store hown hK hP o0.1 (wE_4 o0.2) rfl 2 (by decide) (hall _ m_202) (fun _ h9 => h9) rfl d_Store_read_18 ?_
      have o_18 : okA g 9 16 (R a0 2) := ty_Store_2 hT o0
      refine lv_iload_n hx hb d_Store_read_21 rfl (lv_at hl 1 rfl) ?_
      obtain ⟨hi22, h⟩ := chk_el h
      refine gg_tald hx hb hK hP o_18 hi22 d_Store_read_22 ?_
      have o_22 : okA g 3 0 (R (R a0 2) x1.toNatClampNeg) := ty_9 hT o_18 _
      refine lv_astore_n (lv' := [(3, .ref (R (R a0 2) x1.toNatClampNeg)), (0, .ref a0), (1, .int x1), (2, .int x2)]) hx hb d_Store_read_23 rfl hl (Nat.le_of_ble_eq_true rfl) rfl (fun ls hl => ?_)
      refine lv_aload_n hx hb d_Store_read_24 rfl (lv_at hl 0 rfl) ?_
      refine gg_get (C := R_Txn) (T := F_Txn) (N := 5) (ci := 3) hx hb hall i_Txn hown hK hP o_22.1 (wE_3 o_22.2) rfl 3 (by decide) (hall _ m_229) (fun _ h9 => h9) rfl d_Store_read_25 ?_
      refine lv_if_eq hx hb d_Store_read_28 rfl (fun hc => ?_) (fun hc => ?_)
      · replace h := i_pos hc h
        refine lv_aload_n hx hb d_Store_read_34 rfl (lv_at hl 0 rfl) ?_
        refine lv_iload_n hx hb d_Store_read_35 rfl (lv_at hl 3 rfl) ?_
        obtain ⟨v36, e36, h⟩ := ob_el h
        refine gg_Vi (As := [.int x2]) (rest := []) (ci := 3) (C := R_Txn) (T := F_Txn) (N := 5) ⟨hx, hb, hml, hown, hall⟩ (c_Txn_writes l hT o_22 e36) (cwV 1 hall (gV m_203 m_204 m_205 m_180 m_163) rfl rfl rfl (by decide +kernel) ⟨Nat.le_of_ble_eq_true rfl, Nat.le_of_ble_eq_true rfl⟩) hK hP hS o_22.1 (wE_3 o_22.2) rfl rfl hl.1 rfl (Nat.le_of_ble_eq_true rfl) d_Store_read_36 (fun H locs hP hS => ?_)
        refine lv_if_eq hx hb d_Store_read_39 rfl (fun hc => ?_) (fun hc => ?_)
        · replace h := i_pos hc h
          refine lv_aload_n hx hb d_Store_read_49 rfl (lv_at hl 1 rfl) ?_
          refine lv_iload_n hx hb d_Store_read_50 rfl (lv_at hl 3 rfl) ?_
          obtain ⟨v51, e51, h⟩ := ob_el h
          refine gg_Si (As := [.int x2]) (rest := [.ref a0]) ⟨hx, hb, hml, hown, hall⟩ (c_Store_groupOfKey l hT e51) (cwS 1 hall (gS m_230 m_211 m_6 m_164) rfl rfl rfl (by decide +kernel) ⟨Nat.le_of_ble_eq_true rfl, Nat.le_of_ble_eq_true rfl⟩) hK hP hS rfl hl.1 rfl (Nat.le_of_ble_eq_true rfl) d_Store_read_51 (fun H locs hP hS => ?_)
          obtain ⟨v54, e54, h⟩ := ob_el h
          refine gg_Vi (As := [.int v51]) (rest := []) (ci := 4) (C := R_Store) (T := F_Store) (N := 4) ⟨hx, hb, hml, hown, hall⟩ (c_Store_readyNode l hT o0 e54) (cwV 1 hall (gV m_172 m_173 m_174 m_6 m_169) rfl rfl rfl (by decide +kernel) ⟨Nat.le_of_ble_eq_true rfl, Nat.le_of_ble_eq_true rfl⟩) hK hP hS o0.1 (wE_4 o0.2) rfl rfl hl.1 rfl (Nat.le_of_ble_eq_true rfl) d_Store_read_54 (fun H locs hP hS => ?_)
          refine lv_istore (lv' := [(4, .int v54), (3, .ref (R (R a0 2) x1.toNatClampNeg)), (0, .ref a0), (1, .int x1), (2, .int x2)]) hx hb d_Store_read_57 hl (Nat.le_of_ble_eq_true rfl) rfl (fun ls hl => ?_)
          refine lv_iload hx hb d_Store_read_59 (lv_at hl 0 rfl) ?_
          refine lv_iconst (v := (-1)) hx hb d_Store_read_61 (by decide) ?_
          refine lv_icmp_ne hx hb d_Store_read_62 rfl (fun hc => ?_) (fun hc => ?_)
          · replace h := i_neg hc h
            refine lv_aload_n hx hb d_Store_read_68 rfl (lv_at hl 2 rfl) ?_
            refine lv_aload_n hx hb d_Store_read_69 rfl (lv_at hl 1 rfl) ?_
            refine lv_iload_n hx hb d_Store_read_70 rfl (lv_at hl 4 rfl) ?_
            obtain ⟨v71, e71, h⟩ := ob_el h
            refine gg_Si (As := [.int x2]) (rest := [.ref (R (R a0 2) x1.toNatClampNeg), .ref a0]) ⟨hx, hb, hml, hown, hall⟩ (c_Store_groupOfKey l hT e71) (cwS 1 hall (gS m_230 m_211 m_6 m_164) rfl rfl rfl (by decide +kernel) ⟨Nat.le_of_ble_eq_true rfl, Nat.le_of_ble_eq_true rfl⟩) hK hP hS rfl hl.1 rfl (Nat.le_of_ble_eq_true rfl) d_Store_read_71 (fun H locs hP hS => ?_)
            obtain ⟨v74, e74, h⟩ := ob_el h
            refine gg_Vi (As := [.ref (R (R a0 2) x1.toNatClampNeg), .int v71]) (rest := []) (ci := 4) (C := R_Store) (T := F_Store) (N := 4) ⟨hx, hb, hml, hown, hall⟩ (c_Store_hasLostReads l hT o0 o_22 e74) (cwV 2 hall (gV m_231 m_232 m_233 m_6 m_184) rfl rfl rfl (by decide +kernel) ⟨Nat.le_of_ble_eq_true rfl, Nat.le_of_ble_eq_true rfl⟩) hK hP hS o0.1 (wE_4 o0.2) rfl rfl hl.1 rfl (Nat.le_of_ble_eq_true rfl) d_Store_read_74 (fun H locs hP hS => ?_)
            refine lv_if_eq hx hb d_Store_read_77 rfl (fun hc => ?_) (fun hc => ?_)
            · replace h := i_pos hc h
              refine lv_aload_n hx hb d_Store_read_88 rfl (lv_at hl 2 rfl) ?_
              refine lv_aload_n hx hb d_Store_read_89 rfl (lv_at hl 2 rfl) ?_
              refine gg_get (C := R_Store) (T := F_Store) (N := 4) (ci := 4) hx hb hall i_Store hown hK hP o0.1 (wE_4 o0.2) rfl 1 (by decide) (hall _ m_8) (fun _ h9 => h9) rfl d_Store_read_90 ?_
              have o_90 : okA g 8 6 (R a0 1) := ty_Store_1 hT o0
              refine lv_iload hx hb d_Store_read_93 (lv_at hl 0 rfl) ?_
              obtain ⟨hi95, h⟩ := chk_el h
              refine gg_nald hx hb hK hP o_90 hi95 d_Store_read_95 ?_
              have o_95 : okA g 2 0 (R (R a0 1) v54.toNatClampNeg) := ty_8 hT o_90 _
              refine gg_get (C := R_Node) (T := F_Node) (N := 10) (ci := 2) hx hb hall i_Node hown hK hP o_95.1 (wE_2 o_95.2) rfl 2 (by decide) (hall _ m_134) (fun _ h9 => h9) rfl d_Store_read_96 ?_
              have o_96 : okA g 1 0 (R (R (R a0 1) v54.toNatClampNeg) 2) := ty_Node_2 hT o_95
              refine lv_iload_n hx hb d_Store_read_99 rfl (lv_at hl 4 rfl) ?_
              obtain ⟨v100, e100, h⟩ := ob_el h
              refine gg_Vi (As := [.ref (R (R (R a0 1) v54.toNatClampNeg) 2), .int x2]) (rest := []) (ci := 4) (C := R_Store) (T := F_Store) (N := 4) ⟨hx, hb, hml, hown, hall⟩ (c_Store_isHeldForWriter l hT o0 o_96 e100) (cwV 2 hall (gV m_234 m_235 m_236 m_6 m_209) rfl rfl rfl (by decide +kernel) ⟨Nat.le_of_ble_eq_true rfl, Nat.le_of_ble_eq_true rfl⟩) hK hP hS o0.1 (wE_4 o0.2) rfl rfl hl.1 rfl (Nat.le_of_ble_eq_true rfl) d_Store_read_100 (fun H locs hP hS => ?_)
              refine lv_if_eq hx hb d_Store_read_103 rfl (fun hc => ?_) (fun hc => ?_)
              · replace h := i_pos hc h
                refine lv_aload_n hx hb d_Store_read_109 rfl (lv_at hl 1 rfl) ?_
                refine lv_iload_n hx hb d_Store_read_110 rfl (lv_at hl 4 rfl) ?_
                refine lv_aload_n hx hb d_Store_read_111 rfl (lv_at hl 2 rfl) ?_
                refine gg_get (C := R_Store) (T := F_Store) (N := 4) (ci := 4) hx hb hall i_Store hown hK hP o0.1 (wE_4 o0.2) rfl 1 (by decide) (hall _ m_8) (fun _ h9 => h9) rfl d_Store_read_112 ?_
                have o_112 : okA g 8 6 (R a0 1) := ty_Store_1 hT o0
                refine lv_iload hx hb d_Store_read_115 (lv_at hl 0 rfl) ?_
                obtain ⟨hi117, h⟩ := chk_el h
                refine gg_nald hx hb hK hP o_112 hi117 d_Store_read_117 ?_
                have o_117 : okA g 2 0 (R (R a0 1) v54.toNatClampNeg) := ty_8 hT o_112 _
                refine gg_get (C := R_Node) (T := F_Node) (N := 10) (ci := 2) hx hb hall i_Node hown hK hP o_117.1 (wE_2 o_117.2) rfl 6 (by decide) (hall _ m_107) (fun _ h9 => h9) rfl d_Store_read_118 ?_
                obtain ⟨I121, e121, h⟩ := ob_el h
                refine gg_Vv (As := [.int x2, .int (I (R (R a0 1) v54.toNatClampNeg) 6)]) (rest := []) (ci := 3) (C := R_Txn) (T := F_Txn) (N := 5) ⟨hx, hb, hml, hown, hall⟩ (c_Txn_noteRead l hT o_22 e121) (cwV 2 hall (gV m_237 m_238 m_239 m_180 m_213) rfl rfl rfl (by decide +kernel) ⟨Nat.le_of_ble_eq_true rfl, Nat.le_of_ble_eq_true rfl⟩) hK hP hS o_22.1 (wE_3 o_22.2) rfl rfl hl.1 rfl (Nat.le_of_ble_eq_true rfl) d_Store_read_121 (fun H locs hP hS => ?_)
                refine lv_aload_n hx hb d_Store_read_124 rfl (lv_at hl 2 rfl) ?_
                refine lv_aload_n hx hb d_Store_read_125 rfl (lv_at hl 2 rfl) ?_
                refine gg_get (C := R_Store) (T := F_Store) (N := 4) (ci := 4) hx hb hall i_Store hown hK hP o0.1 (wE_4 o0.2) rfl 1 (by decide) (hall _ m_8) (fun _ h9 => h9) rfl d_Store_read_126 ?_
                have o_126 : okA g 8 6 (R a0 1) := ty_Store_1 hT o0
                refine lv_iload hx hb d_Store_read_129 (lv_at hl 0 rfl) ?_
                obtain ⟨hi131, h⟩ := chk_el h
                refine gg_nald hx hb hK hP o_126 hi131 d_Store_read_131 ?_
                have o_131 : okA g 2 0 (R (R a0 1) v54.toNatClampNeg) := ty_8 hT o_126 _
                refine gg_get (C := R_Node) (T := F_Node) (N := 10) (ci := 2) hx hb hall i_Node hown hK hP o_131.1 (wE_2 o_131.2) rfl 2 (by decide) (hall _ m_134) (fun _ h9 => h9) rfl d_Store_read_132 ?_
                have o_132 : okA g 1 0 (R (R (R a0 1) v54.toNatClampNeg) 2) := ty_Node_2 hT o_131
                refine lv_iload_n hx hb d_Store_read_135 rfl (lv_at hl 4 rfl) ?_
                refine lv_ldc (v := 2147483647) hx hb hown (hall _ m_240) d_Store_read_136 ?_
                obtain ⟨v138, e138, h⟩ := ob_el h
                refine gg_Vi (As := [.ref (R (R (R a0 1) v54.toNatClampNeg) 2), .int x2, .int (2147483647 : Int32)]) (rest := []) (ci := 4) (C := R_Store) (T := F_Store) (N := 4) ⟨hx, hb, hml, hown, hall⟩ (c_Store_valueAt l hT o0 o_132 e138) (cwV 3 hall (gV m_241 m_242 m_243 m_6 m_226) rfl rfl rfl (by decide +kernel) ⟨Nat.le_of_ble_eq_true rfl, Nat.le_of_ble_eq_true rfl⟩) hK hP hS o0.1 (wE_4 o0.2) rfl rfl hl.1 rfl (Nat.le_of_ble_eq_true rfl) d_Store_read_138 (fun H locs hP hS => ?_)
                obtain ⟨rfl, rfl⟩ := rt_el h
                exact gg_iret hx hb hr hlk hK hP hS d_Store_read_141
              · replace h := i_neg hc h
                refine lv_bipush (v := (-4)) hx hb d_Store_read_106 (by decide) ?_
                obtain ⟨rfl, rfl⟩ := rt_el h
                exact gg_iret hx hb hr hlk hK hP hS d_Store_read_108
            · replace h := i_neg hc h
              refine lv_aload_n hx hb d_Store_read_80 rfl (lv_at hl 1 rfl) ?_
              refine lv_iconst (v := 4) hx hb d_Store_read_81 (by decide) ?_
              refine gg_put (C := R_Txn) (T := F_Txn) (N := 5) (ci := 3) (ty := .int) hx hb hall i_Txn t_Txn t_Txn_ok n_Txn hown hT.1 hK hP hS o_22.1 (wE_3 o_22.2) rfl 3 (by decide) (hall _ m_229) (fun _ h9 => h9) rfl (by decide +kernel) rfl rfl (Nat.le_of_ble_eq_true rfl) (ws_Txn_3 o_22.2) d_Store_read_82 (fun I82 H locs e82 hP hS => ?_)
              replace h := ap_el e82 h
              refine lv_bipush (v := (-2)) hx hb d_Store_read_85 (by decide) ?_
              obtain ⟨rfl, rfl⟩ := rt_el h
              exact gg_iret hx hb hr hlk hK hP hS d_Store_read_87
          · replace h := i_pos hc h
            refine lv_bipush (v := (-3)) hx hb d_Store_read_65 (by decide) ?_
            obtain ⟨rfl, rfl⟩ := rt_el h
            exact gg_iret hx hb hr hlk hK hP hS d_Store_read_67
        · replace h := i_neg hc h
          refine lv_aload_n hx hb d_Store_read_42 rfl (lv_at hl 0 rfl) ?_
          refine gg_get (C := R_Txn) (T := F_Txn) (N := 5) (ci := 3) hx hb hall i_Txn hown hK hP o_22.1 (wE_3 o_22.2) rfl 1 (by decide) (hall _ m_225) (fun _ h9 => h9) rfl d_Store_read_43 ?_
          have o_43 : okA g 6 8 (R (R (R a0 2) x1.toNatClampNeg) 1) := ty_Txn_1 hT o_22
          refine lv_iload_n hx hb d_Store_read_46 rfl (lv_at hl 3 rfl) ?_
          obtain ⟨hi47, h⟩ := chk_el h
          refine gg_iald hx hb hK hP o_43 hi47 d_Store_read_47 ?_
          obtain ⟨rfl, rfl⟩ := rt_el h
          exact gg_iret hx hb hr hlk hK hP hS d_Store_read_48
      · replace h := i_neg hc h
        refine lv_bipush (v := (-2)) hx hb d_Store_read_31 (by decide) ?_
        obtain ⟨rfl, rfl⟩ := rt_el h
        exact gg_iret hx hb hr hlk hK hP hS d_Store_read_33
    · replace h := i_pos hc h
      exact b_Store_read_15 cx _ _ _ _ h hP hS (lv_sub hl [] rfl)
end
