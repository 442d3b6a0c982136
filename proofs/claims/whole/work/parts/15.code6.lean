section
abbrev b_Log_knowsEpoch : ByteArray := prog_3_method_7_code
def y_Log_knowsEpoch : MethodName := ⟨"StampedStore$Log", "knowsEpoch", "(I)Z"⟩
def w_Log_knowsEpoch : List Cond := .code y_Log_knowsEpoch b_Log_knowsEpoch 3 (some .boolean) :: w_all
theorem d_Log_knowsEpoch_0 : decode b_Log_knowsEpoch 0 = .ok (.iconst 0, 1) := by decide +kernel
theorem d_Log_knowsEpoch_1 : decode b_Log_knowsEpoch 1 = .ok (.istore_n 2, 1) := by decide +kernel
theorem d_Log_knowsEpoch_2 : decode b_Log_knowsEpoch 2 = .ok (.iload_n 2, 1) := by decide +kernel
theorem d_Log_knowsEpoch_3 : decode b_Log_knowsEpoch 3 = .ok (.aload_n 0, 1) := by decide +kernel
theorem d_Log_knowsEpoch_4 : decode b_Log_knowsEpoch 4 = .ok (.getfield 39, 3) := by decide +kernel
theorem d_Log_knowsEpoch_7 : decode b_Log_knowsEpoch 7 = .ok (.if_icmp .ge 21, 3) := by decide +kernel
theorem d_Log_knowsEpoch_10 : decode b_Log_knowsEpoch 10 = .ok (.aload_n 0, 1) := by decide +kernel
theorem d_Log_knowsEpoch_11 : decode b_Log_knowsEpoch 11 = .ok (.getfield 9, 3) := by decide +kernel
theorem d_Log_knowsEpoch_14 : decode b_Log_knowsEpoch 14 = .ok (.iload_n 2, 1) := by decide +kernel
theorem d_Log_knowsEpoch_15 : decode b_Log_knowsEpoch 15 = .ok (.iaload, 1) := by decide +kernel
theorem d_Log_knowsEpoch_16 : decode b_Log_knowsEpoch 16 = .ok (.iload_n 1, 1) := by decide +kernel
theorem d_Log_knowsEpoch_17 : decode b_Log_knowsEpoch 17 = .ok (.if_icmp .ne 5, 3) := by decide +kernel
theorem d_Log_knowsEpoch_20 : decode b_Log_knowsEpoch 20 = .ok (.iconst 1, 1) := by decide +kernel
theorem d_Log_knowsEpoch_21 : decode b_Log_knowsEpoch 21 = .ok (.ireturn, 1) := by decide +kernel
theorem d_Log_knowsEpoch_22 : decode b_Log_knowsEpoch 22 = .ok (.iinc 2 1, 3) := by decide +kernel
theorem d_Log_knowsEpoch_25 : decode b_Log_knowsEpoch 25 = .ok (.goto (-23), 3) := by decide +kernel
theorem d_Log_knowsEpoch_28 : decode b_Log_knowsEpoch 28 = .ok (.iconst 0, 1) := by decide +kernel
theorem d_Log_knowsEpoch_29 : decode b_Log_knowsEpoch 29 = .ok (.ireturn, 1) := by decide +kernel
def B_Log_knowsEpoch_2 (R : Nat → Nat → Nat) (I : St) : Nat → Nat → Int32 → Int32 → Option Int32
  | 0, _, _, _ => none
  | f + 1, a0, x1, x2 => (if (I a0 6) ≤ x2 then some (0 : Int32) else (chk x2 60 ((if (I (R a0 0) x2.toNatClampNeg) = x1 then some (1 : Int32) else B_Log_knowsEpoch_2 R I f a0 x1 (x2 + 1)))))
set_option maxHeartbeats 4000000 in
set_option maxRecDepth 100000 in
theorem b_Log_knowsEpoch_2 {p : Program} {l : Launch} {e : Env} {s : State} {m : MethodId} {args : Array Value} {below : List Frame} {meth : Method} {c : Code} {g : Sg} {R : Nat → Nat → Nat} {I : St} {v : Int32} (cx : Cx p s m args meth c g R R_Log b_Log_knowsEpoch 3 (some .boolean)) (f : Nat) : ∀ (a0 : Nat) (x1 : Int32) (x2 : Int32) (H : Heap) (locs : List Loc) (ls : Array Slot), okA g 1 0 a0 → B_Log_knowsEpoch_2 R I f a0 x1 x2 = some v → wW g R I H → va_S (· ∈ g.L) s.heap H locs → lv_has ls 3 [(0, .ref a0), (1, .int x1), (2, .int x2)] → W p l e { frames := 0, cells := 0, slots := 0, locals := 0 } s m args below meth c H locs 0 0 (MQ below (Qi g R v I) args s 0 0 (· ∈ g.L)) (F0 m 2 ls []) := by
  have ⟨hx, hb, hml, hr, hlk, hown, hall, hT, hK⟩ := cx
  induction f with
  | zero => intro a0 x1 x2 H locs ls o0 h; unfold B_Log_knowsEpoch_2 at h; cases h
  | succ f ih =>
    intro a0 x1 x2 H locs ls o0 h hP hS hl
    unfold B_Log_knowsEpoch_2 at h
    refine lv_iload_n hx hb d_Log_knowsEpoch_2 rfl (lv_at hl 2 rfl) ?_
    refine lv_aload_n hx hb d_Log_knowsEpoch_3 rfl (lv_at hl 0 rfl) ?_
    refine gg_get (C := R_Log) (T := F_Log) (N := 7) (ci := 1) hx hb hall i_Log hown hK hP o0.1 (wE_1 o0.2) rfl 6 (by decide) (hall _ m_142) (fun _ h9 => h9) rfl d_Log_knowsEpoch_4 ?_
    refine lv_icmp_ge hx hb d_Log_knowsEpoch_7 rfl (fun hc => ?_) (fun hc => ?_)
    · replace h := i_pos hc h
      refine lv_iconst (v := 0) hx hb d_Log_knowsEpoch_28 (by decide) ?_
      obtain rfl := Option.some.inj h
      exact gg_zret hx hb hr hlk rfl hK hP hS d_Log_knowsEpoch_29
    · replace h := i_neg hc h
      refine lv_aload_n hx hb d_Log_knowsEpoch_10 rfl (lv_at hl 0 rfl) ?_
      refine gg_get (C := R_Log) (T := F_Log) (N := 7) (ci := 1) hx hb hall i_Log hown hK hP o0.1 (wE_1 o0.2) rfl 0 (by decide) (hall _ m_33) (fun _ h9 => h9) rfl d_Log_knowsEpoch_11 ?_
      have o_11 : okA g 6 60 (R a0 0) := ty_Log_0 hT o0
      refine lv_iload_n hx hb d_Log_knowsEpoch_14 rfl (lv_at hl 2 rfl) ?_
      obtain ⟨hi15, h⟩ := chk_el h
      refine gg_iald hx hb hK hP o_11 hi15 d_Log_knowsEpoch_15 ?_
      refine lv_iload_n hx hb d_Log_knowsEpoch_16 rfl (lv_at hl 1 rfl) ?_
      refine lv_icmp_ne hx hb d_Log_knowsEpoch_17 rfl (fun hc => ?_) (fun hc => ?_)
      · replace h := i_neg hc h
        refine lv_iinc (k := 2) (v := (x2 + 1)) (lv' := [(2, .int (x2 + 1)), (0, .ref a0), (1, .int x1)]) hx hb d_Log_knowsEpoch_22 hl rfl (by rw [show Int32.ofInt 1 = (1 : Int32) from by decide]) (Nat.le_of_ble_eq_true rfl) rfl (fun ls hl => ?_)
        refine lv_goto hx hb d_Log_knowsEpoch_25 rfl ?_
        exact ih _ _ _ _ _ _ o0 h hP hS (lv_sub hl [1, 2, 0] rfl)
      · replace h := i_pos hc h
        refine lv_iconst (v := 1) hx hb d_Log_knowsEpoch_20 (by decide) ?_
        obtain rfl := Option.some.inj h
        exact gg_zret hx hb hr hlk rfl hK hP hS d_Log_knowsEpoch_21
def F_Log_knowsEpoch (R : Nat → Nat → Nat) (a0 : Nat) (x1 : Int32) (I : St) : Option Int32 := B_Log_knowsEpoch_2 R I 100 a0 x1 (0 : Int32)
set_option maxHeartbeats 4000000 in
set_option maxRecDepth 100000 in
theorem c_Log_knowsEpoch (l : Launch) {g : Sg} {R : Nat → Nat → Nat} (hT : Ty g R) {a0 : Nat} (o0 : okA g 1 0 a0) {x1 : Int32} {I : St} {v : Int32} (h : F_Log_knowsEpoch R a0 x1 I = some v) : Cti l g R y_Log_knowsEpoch w_Log_knowsEpoch 0 0 [.ref a0, .int x1] I v I := by
  unfold Cti
  refine Met.ofW (cc := b_Log_knowsEpoch) (maxL := 3) (ret := (some .boolean)) (by decide) rfl ?_
  intro p e s m args below meth c s₁ B hml hv
  obtain ⟨rfl, hP, hK⟩ := hv
  have hts := atoms_spec (ws := w_Log_knowsEpoch) B.pre
  have hall : ∀ w ∈ w_all, w.before _ s = true := fun w hw => hts w (List.mem_cons_of_mem _ hw)
  have hown : s.vm.findClass R_Log = some m.cls := findClass_of_methodNamed B.named
  have hx := B.exec
  have hb := B.bytes
  have hr := B.returns
  have hlk := B.notSynchronized
  have cx : Cx p s m _ meth c g R R_Log b_Log_knowsEpoch 3 (some .boolean) := ⟨hx, hb, hml, hr, hlk, hown, hall, hT, hK⟩
  have hl := lv_entry ([.ref a0, .int x1]) (n := 3) (Nat.le_of_ble_eq_true rfl)
  rw [lg_entry_eq]
  generalize (lg_sl ([.ref a0, .int x1]) ++ List.replicate (3 - (lg_sl ([.ref a0, .int x1])).length) Slot.unset).toArray = ls at hl ⊢
  have hl : lv_has ls 3 [(0, .ref a0), (1, .int x1)] := hl
  have hS : va_S (· ∈ g.L) s.heap s.heap [] := va_S.rf
  unfold F_Log_knowsEpoch at h
  refine lv_iconst (v := 0) hx hb d_Log_knowsEpoch_0 (by decide) ?_
  refine lv_istore_n (lv' := [(2, .int (0 : Int32)), (0, .ref a0), (1, .int x1)]) hx hb d_Log_knowsEpoch_1 rfl hl (Nat.le_of_ble_eq_true rfl) rfl (fun ls hl => ?_)
  exact b_Log_knowsEpoch_2 cx 100 _ _ _ _ _ _ o0 h hP hS (lv_sub hl [1, 2, 0] rfl)
abbrev b_Store_readyNode : ByteArray := prog_1_method_28_code
def y_Store_readyNode : MethodName := ⟨"StampedStore", "readyNode", "(I)I"⟩
def w_Store_readyNode : List Cond := .code y_Store_readyNode b_Store_readyNode 4 (some .int) :: w_all
theorem d_Store_readyNode_0 : decode b_Store_readyNode 0 = .ok (.iload_n 1, 1) := by decide +kernel
theorem d_Store_readyNode_1 : decode b_Store_readyNode 1 = .ok (.iconst 3, 1) := by decide +kernel
theorem d_Store_readyNode_2 : decode b_Store_readyNode 2 = .ok (.imul, 1) := by decide +kernel
theorem d_Store_readyNode_3 : decode b_Store_readyNode 3 = .ok (.istore_n 2, 1) := by decide +kernel
theorem d_Store_readyNode_4 : decode b_Store_readyNode 4 = .ok (.iload_n 2, 1) := by decide +kernel
theorem d_Store_readyNode_5 : decode b_Store_readyNode 5 = .ok (.istore_n 3, 1) := by decide +kernel
theorem d_Store_readyNode_6 : decode b_Store_readyNode 6 = .ok (.iload_n 3, 1) := by decide +kernel
theorem d_Store_readyNode_7 : decode b_Store_readyNode 7 = .ok (.iload_n 2, 1) := by decide +kernel
theorem d_Store_readyNode_8 : decode b_Store_readyNode 8 = .ok (.iconst 3, 1) := by decide +kernel
theorem d_Store_readyNode_9 : decode b_Store_readyNode 9 = .ok (.iadd, 1) := by decide +kernel
theorem d_Store_readyNode_10 : decode b_Store_readyNode 10 = .ok (.if_icmp .ge 47, 3) := by decide +kernel
theorem d_Store_readyNode_13 : decode b_Store_readyNode 13 = .ok (.aload_n 0, 1) := by decide +kernel
theorem d_Store_readyNode_14 : decode b_Store_readyNode 14 = .ok (.getfield 11, 3) := by decide +kernel
theorem d_Store_readyNode_17 : decode b_Store_readyNode 17 = .ok (.iload_n 3, 1) := by decide +kernel
theorem d_Store_readyNode_18 : decode b_Store_readyNode 18 = .ok (.aaload, 1) := by decide +kernel
theorem d_Store_readyNode_19 : decode b_Store_readyNode 19 = .ok (.invokevirtual 86, 3) := by decide +kernel
theorem d_Store_readyNode_22 : decode b_Store_readyNode 22 = .ok (.ifCond .eq 29, 3) := by decide +kernel
theorem d_Store_readyNode_25 : decode b_Store_readyNode 25 = .ok (.aload_n 0, 1) := by decide +kernel
theorem d_Store_readyNode_26 : decode b_Store_readyNode 26 = .ok (.getfield 11, 3) := by decide +kernel
theorem d_Store_readyNode_29 : decode b_Store_readyNode 29 = .ok (.iload_n 3, 1) := by decide +kernel
theorem d_Store_readyNode_30 : decode b_Store_readyNode 30 = .ok (.aaload, 1) := by decide +kernel
theorem d_Store_readyNode_31 : decode b_Store_readyNode 31 = .ok (.getfield 97, 3) := by decide +kernel
theorem d_Store_readyNode_34 : decode b_Store_readyNode 34 = .ok (.aload_n 0, 1) := by decide +kernel
theorem d_Store_readyNode_35 : decode b_Store_readyNode 35 = .ok (.getfield 11, 3) := by decide +kernel
theorem d_Store_readyNode_38 : decode b_Store_readyNode 38 = .ok (.iload_n 3, 1) := by decide +kernel
theorem d_Store_readyNode_39 : decode b_Store_readyNode 39 = .ok (.aaload, 1) := by decide +kernel
theorem d_Store_readyNode_40 : decode b_Store_readyNode 40 = .ok (.getfield 63, 3) := by decide +kernel
theorem d_Store_readyNode_43 : decode b_Store_readyNode 43 = .ok (.invokevirtual 204, 3) := by decide +kernel
theorem d_Store_readyNode_46 : decode b_Store_readyNode 46 = .ok (.ifCond .eq 5, 3) := by decide +kernel
theorem d_Store_readyNode_49 : decode b_Store_readyNode 49 = .ok (.iload_n 3, 1) := by decide +kernel
theorem d_Store_readyNode_50 : decode b_Store_readyNode 50 = .ok (.ireturn, 1) := by decide +kernel
theorem d_Store_readyNode_51 : decode b_Store_readyNode 51 = .ok (.iinc 3 1, 3) := by decide +kernel
theorem d_Store_readyNode_54 : decode b_Store_readyNode 54 = .ok (.goto (-48), 3) := by decide +kernel
theorem d_Store_readyNode_57 : decode b_Store_readyNode 57 = .ok (.iconst (-1), 1) := by decide +kernel
theorem d_Store_readyNode_58 : decode b_Store_readyNode 58 = .ok (.ireturn, 1) := by decide +kernel
def B_Store_readyNode_51 (R : Nat → Nat → Nat) (I : St) (k6 : Nat → Int32 → Int32 → Option Int32) (a0 : Nat) (x2 : Int32) (x3 : Int32) : Option Int32 := k6 a0 x2 (x3 + 1)
set_option maxHeartbeats 4000000 in
set_option maxRecDepth 100000 in
theorem b_Store_readyNode_51 {p : Program} {l : Launch} {e : Env} {s : State} {m : MethodId} {args : Array Value} {below : List Frame} {meth : Method} {c : Code} {g : Sg} {R : Nat → Nat → Nat} {I : St} {v : Int32} (cx : Cx p s m args meth c g R R_Store b_Store_readyNode 4 (some .int)) {k6 : Nat → Int32 → Int32 → Option Int32} (hk6 : ∀ (a0 : Nat) (x2 : Int32) (x3 : Int32) (H : Heap) (locs : List Loc) (ls : Array Slot), okA g 4 0 a0 → k6 a0 x2 x3 = some v → wW g R I H → va_S (· ∈ g.L) s.heap H locs → lv_has ls 4 [(0, .ref a0), (2, .int x2), (3, .int x3)] → W p l e { frames := 2, cells := 0, slots := 0, locals := 40 } s m args below meth c H locs 0 0 (MQ below (Qi g R v I) args s 0 0 (· ∈ g.L)) (F0 m 6 ls [])) : ∀ (a0 : Nat) (x2 : Int32) (x3 : Int32) (H : Heap) (locs : List Loc) (ls : Array Slot), okA g 4 0 a0 → B_Store_readyNode_51 R I k6 a0 x2 x3 = some v → wW g R I H → va_S (· ∈ g.L) s.heap H locs → lv_has ls 4 [(0, .ref a0), (2, .int x2), (3, .int x3)] → W p l e { frames := 2, cells := 0, slots := 0, locals := 40 } s m args below meth c H locs 0 0 (MQ below (Qi g R v I) args s 0 0 (· ∈ g.L)) (F0 m 51 ls []) := by
  have ⟨hx, hb, hml, hr, hlk, hown, hall, hT, hK⟩ := cx
  intro a0 x2 x3 H locs ls o0 h hP hS hl
  unfold B_Store_readyNode_51 at h
  refine lv_iinc (k := 2) (v := (x3 + 1)) (lv' := [(3, .int (x3 + 1)), (0, .ref a0), (2, .int x2)]) hx hb d_Store_readyNode_51 hl rfl (by rw [show Int32.ofInt 1 = (1 : Int32) from by decide]) (Nat.le_of_ble_eq_true rfl) rfl (fun ls hl => ?_)
  refine lv_goto hx hb d_Store_readyNode_54 rfl ?_
  exact hk6 _ _ _ _ _ _ o0 h hP hS (lv_sub hl [1, 2, 0] rfl)
def B_Store_readyNode_6 (R : Nat → Nat → Nat) (I : St) : Nat → Nat → Int32 → Int32 → Option Int32
  | 0, _, _, _ => none
  | f + 1, a0, x2, x3 => (if (x2 + (3 : Int32)) ≤ x3 then some (-1 : Int32) else (chk x3 6 ((ob (F_Node_isActive R (R (R a0 1) x3.toNatClampNeg) I) (fun v19 => (if v19 = 0 then B_Store_readyNode_51 R I (B_Store_readyNode_6 R I f) a0 x2 x3 else (chk x3 6 ((chk x3 6 ((ob (F_Log_knowsEpoch R (R (R (R a0 1) x3.toNatClampNeg) 2) (I (R (R a0 1) x3.toNatClampNeg) 6) I) (fun v43 => (if v43 = 0 then B_Store_readyNode_51 R I (B_Store_readyNode_6 R I f) a0 x2 x3 else some x3)))))))))))))
set_option maxHeartbeats 4000000 in
set_option maxRecDepth 100000 in
theorem b_Store_readyNode_6 {p : Program} {l : Launch} {e : Env} {s : State} {m : MethodId} {args : Array Value} {below : List Frame} {meth : Method} {c : Code} {g : Sg} {R : Nat → Nat → Nat} {I : St} {v : Int32} (cx : Cx p s m args meth c g R R_Store b_Store_readyNode 4 (some .int)) (f : Nat) : ∀ (a0 : Nat) (x2 : Int32) (x3 : Int32) (H : Heap) (locs : List Loc) (ls : Array Slot), okA g 4 0 a0 → B_Store_readyNode_6 R I f a0 x2 x3 = some v → wW g R I H → va_S (· ∈ g.L) s.heap H locs → lv_has ls 4 [(0, .ref a0), (2, .int x2), (3, .int x3)] → W p l e { frames := 2, cells := 0, slots := 0, locals := 40 } s m args below meth c H locs 0 0 (MQ below (Qi g R v I) args s 0 0 (· ∈ g.L)) (F0 m 6 ls []) := by
  have ⟨hx, hb, hml, hr, hlk, hown, hall, hT, hK⟩ := cx
  induction f with
  | zero => intro a0 x2 x3 H locs ls o0 h; unfold B_Store_readyNode_6 at h; cases h
  | succ f ih =>
    intro a0 x2 x3 H locs ls o0 h hP hS hl
    unfold B_Store_readyNode_6 at h
    refine lv_iload_n hx hb d_Store_readyNode_6 rfl (lv_at hl 2 rfl) ?_
    refine lv_iload_n hx hb d_Store_readyNode_7 rfl (lv_at hl 1 rfl) ?_
    refine lv_iconst (v := 3) hx hb d_Store_readyNode_8 (by decide) ?_
    refine lv_iadd hx hb d_Store_readyNode_9 ?_
    refine lv_icmp_ge hx hb d_Store_readyNode_10 rfl (fun hc => ?_) (fun hc => ?_)
    · replace h := i_pos hc h
      refine lv_iconst (v := (-1)) hx hb d_Store_readyNode_57 (by decide) ?_
      obtain rfl := Option.some.inj h
      exact gg_iret hx hb hr hlk hK hP hS d_Store_readyNode_58
    · replace h := i_neg hc h
      refine lv_aload_n hx hb d_Store_readyNode_13 rfl (lv_at hl 0 rfl) ?_
      refine gg_get (C := R_Store) (T := F_Store) (N := 4) (ci := 4) hx hb hall i_Store hown hK hP o0.1 (wE_4 o0.2) rfl 1 (by decide) (hall _ m_8) (fun _ h9 => h9) rfl d_Store_readyNode_14 ?_
      have o_14 : okA g 8 6 (R a0 1) := ty_Store_1 hT o0
      refine lv_iload_n hx hb d_Store_readyNode_17 rfl (lv_at hl 2 rfl) ?_
      obtain ⟨hi18, h⟩ := chk_el h
      refine gg_nald hx hb hK hP o_14 hi18 d_Store_readyNode_18 ?_
      have o_18 : okA g 2 0 (R (R a0 1) x3.toNatClampNeg) := ty_8 hT o_14 _
      obtain ⟨v19, e19, h⟩ := ob_el h
      refine gg_Vi (As := []) (rest := []) (ci := 2) (C := R_Node) (T := F_Node) (N := 10) ⟨hx, hb, hml, hown, hall⟩ (c_Node_isActive l hT o_18 e19) (cwV 0 hall (gV m_116 m_117 m_118 m_48 m_115) rfl rfl rfl (by decide +kernel) ⟨Nat.le_of_ble_eq_true rfl, Nat.le_of_ble_eq_true rfl⟩) hK hP hS o_18.1 (wE_2 o_18.2) rfl rfl hl.1 rfl (Nat.le_of_ble_eq_true rfl) d_Store_readyNode_19 (fun H locs hP hS => ?_)
      refine lv_if_eq hx hb d_Store_readyNode_22 rfl (fun hc => ?_) (fun hc => ?_)
      · replace h := i_pos hc h
        exact b_Store_readyNode_51 cx ih _ _ _ _ _ _ o0 h hP hS (lv_sub hl [0, 1, 2] rfl)
      · replace h := i_neg hc h
        refine lv_aload_n hx hb d_Store_readyNode_25 rfl (lv_at hl 0 rfl) ?_
        refine gg_get (C := R_Store) (T := F_Store) (N := 4) (ci := 4) hx hb hall i_Store hown hK hP o0.1 (wE_4 o0.2) rfl 1 (by decide) (hall _ m_8) (fun _ h9 => h9) rfl d_Store_readyNode_26 ?_
        have o_26 : okA g 8 6 (R a0 1) := ty_Store_1 hT o0
        refine lv_iload_n hx hb d_Store_readyNode_29 rfl (lv_at hl 2 rfl) ?_
        obtain ⟨hi30, h⟩ := chk_el h
        refine gg_nald hx hb hK hP o_26 hi30 d_Store_readyNode_30 ?_
        have o_30 : okA g 2 0 (R (R a0 1) x3.toNatClampNeg) := ty_8 hT o_26 _
        refine gg_get (C := R_Node) (T := F_Node) (N := 10) (ci := 2) hx hb hall i_Node hown hK hP o_30.1 (wE_2 o_30.2) rfl 2 (by decide) (hall _ m_134) (fun _ h9 => h9) rfl d_Store_readyNode_31 ?_
        have o_31 : okA g 1 0 (R (R (R a0 1) x3.toNatClampNeg) 2) := ty_Node_2 hT o_30
        refine lv_aload_n hx hb d_Store_readyNode_34 rfl (lv_at hl 0 rfl) ?_
        refine gg_get (C := R_Store) (T := F_Store) (N := 4) (ci := 4) hx hb hall i_Store hown hK hP o0.1 (wE_4 o0.2) rfl 1 (by decide) (hall _ m_8) (fun _ h9 => h9) rfl d_Store_readyNode_35 ?_
        have o_35 : okA g 8 6 (R a0 1) := ty_Store_1 hT o0
        refine lv_iload_n hx hb d_Store_readyNode_38 rfl (lv_at hl 2 rfl) ?_
        obtain ⟨hi39, h⟩ := chk_el h
        refine gg_nald hx hb hK hP o_35 hi39 d_Store_readyNode_39 ?_
        have o_39 : okA g 2 0 (R (R a0 1) x3.toNatClampNeg) := ty_8 hT o_35 _
        refine gg_get (C := R_Node) (T := F_Node) (N := 10) (ci := 2) hx hb hall i_Node hown hK hP o_39.1 (wE_2 o_39.2) rfl 6 (by decide) (hall _ m_107) (fun _ h9 => h9) rfl d_Store_readyNode_40 ?_
        obtain ⟨v43, e43, h⟩ := ob_el h
        refine gg_Vi (As := [.int (I (R (R a0 1) x3.toNatClampNeg) 6)]) (rest := []) (ci := 1) (C := R_Log) (T := F_Log) (N := 7) ⟨hx, hb, hml, hown, hall⟩ (c_Log_knowsEpoch l hT o_31 e43) (cwV 1 hall (gV m_166 m_167 m_168 m_38 m_165) rfl rfl rfl (by decide +kernel) ⟨Nat.le_of_ble_eq_true rfl, Nat.le_of_ble_eq_true rfl⟩) hK hP hS o_31.1 (wE_1 o_31.2) rfl rfl hl.1 rfl (Nat.le_of_ble_eq_true rfl) d_Store_readyNode_43 (fun H locs hP hS => ?_)
        refine lv_if_eq hx hb d_Store_readyNode_46 rfl (fun hc => ?_) (fun hc => ?_)
        · replace h := i_pos hc h
          exact b_Store_readyNode_51 cx ih _ _ _ _ _ _ o0 h hP hS (lv_sub hl [0, 1, 2] rfl)
        · replace h := i_neg hc h
          refine lv_iload_n hx hb d_Store_readyNode_49 rfl (lv_at hl 2 rfl) ?_
          obtain rfl := Option.some.inj h
          exact gg_iret hx hb hr hlk hK hP hS d_Store_readyNode_50
def F_Store_readyNode (R : Nat → Nat → Nat) (a0 : Nat) (x1 : Int32) (I : St) : Option Int32 := B_Store_readyNode_6 R I 100 a0 (x1 * (3 : Int32)) (x1 * (3 : Int32))
set_option maxHeartbeats 4000000 in
set_option maxRecDepth 100000 in
theorem c_Store_readyNode (l : Launch) {g : Sg} {R : Nat → Nat → Nat} (hT : Ty g R) {a0 : Nat} (o0 : okA g 4 0 a0) {x1 : Int32} {I : St} {v : Int32} (h : F_Store_readyNode R a0 x1 I = some v) : Cti l g R y_Store_readyNode w_Store_readyNode 2 40 [.ref a0, .int x1] I v I := by
  unfold Cti
  refine Met.ofW (cc := b_Store_readyNode) (maxL := 4) (ret := (some .int)) (by decide) rfl ?_
  intro p e s m args below meth c s₁ B hml hv
  obtain ⟨rfl, hP, hK⟩ := hv
  have hts := atoms_spec (ws := w_Store_readyNode) B.pre
  have hall : ∀ w ∈ w_all, w.before _ s = true := fun w hw => hts w (List.mem_cons_of_mem _ hw)
  have hown : s.vm.findClass R_Store = some m.cls := findClass_of_methodNamed B.named
  have hx := B.exec
  have hb := B.bytes
  have hr := B.returns
  have hlk := B.notSynchronized
  have cx : Cx p s m _ meth c g R R_Store b_Store_readyNode 4 (some .int) := ⟨hx, hb, hml, hr, hlk, hown, hall, hT, hK⟩
  have hl := lv_entry ([.ref a0, .int x1]) (n := 4) (Nat.le_of_ble_eq_true rfl)
  rw [lg_entry_eq]
  generalize (lg_sl ([.ref a0, .int x1]) ++ List.replicate (4 - (lg_sl ([.ref a0, .int x1])).length) Slot.unset).toArray = ls at hl ⊢
  have hl : lv_has ls 4 [(0, .ref a0), (1, .int x1)] := hl
  have hS : va_S (· ∈ g.L) s.heap s.heap [] := va_S.rf
  unfold F_Store_readyNode at h
  refine lv_iload_n hx hb d_Store_readyNode_0 rfl (lv_at hl 1 rfl) ?_
  refine lv_iconst (v := 3) hx hb d_Store_readyNode_1 (by decide) ?_
  refine lv_imul hx hb d_Store_readyNode_2 ?_
  refine lv_istore_n (lv' := [(2, .int (x1 * (3 : Int32))), (0, .ref a0), (1, .int x1)]) hx hb d_Store_readyNode_3 rfl hl (Nat.le_of_ble_eq_true rfl) rfl (fun ls hl => ?_)
  refine lv_iload_n hx hb d_Store_readyNode_4 rfl (lv_at hl 0 rfl) ?_
  refine lv_istore_n (lv' := [(3, .int (x1 * (3 : Int32))), (2, .int (x1 * (3 : Int32))), (0, .ref a0), (1, .int x1)]) hx hb d_Store_readyNode_5 rfl hl (Nat.le_of_ble_eq_true rfl) rfl (fun ls hl => ?_)
  exact b_Store_readyNode_6 cx 100 _ _ _ _ _ _ o0 h hP hS (lv_sub hl [2, 1, 0] rfl)
abbrev b_Txn_hasReadIn : ByteArray := prog_5_method_4_code
def y_Txn_hasReadIn : MethodName := ⟨"StampedStore$Transaction", "hasReadIn", "(I)Z"⟩
def w_Txn_hasReadIn : List Cond := .code y_Txn_hasReadIn b_Txn_hasReadIn 2 (some .boolean) :: w_all
theorem d_Txn_hasReadIn_0 : decode b_Txn_hasReadIn 0 = .ok (.aload_n 0, 1) := by decide +kernel
theorem d_Txn_hasReadIn_1 : decode b_Txn_hasReadIn 1 = .ok (.getfield 19, 3) := by decide +kernel
theorem d_Txn_hasReadIn_4 : decode b_Txn_hasReadIn 4 = .ok (.iload_n 1, 1) := by decide +kernel
theorem d_Txn_hasReadIn_5 : decode b_Txn_hasReadIn 5 = .ok (.iaload, 1) := by decide +kernel
theorem d_Txn_hasReadIn_6 : decode b_Txn_hasReadIn 6 = .ok (.iconst (-1), 1) := by decide +kernel
theorem d_Txn_hasReadIn_7 : decode b_Txn_hasReadIn 7 = .ok (.if_icmp .eq 7, 3) := by decide +kernel
theorem d_Txn_hasReadIn_10 : decode b_Txn_hasReadIn 10 = .ok (.iconst 1, 1) := by decide +kernel
theorem d_Txn_hasReadIn_11 : decode b_Txn_hasReadIn 11 = .ok (.goto 4, 3) := by decide +kernel
theorem d_Txn_hasReadIn_14 : decode b_Txn_hasReadIn 14 = .ok (.iconst 0, 1) := by decide +kernel
theorem d_Txn_hasReadIn_15 : decode b_Txn_hasReadIn 15 = .ok (.ireturn, 1) := by decide +kernel
def F_Txn_hasReadIn (R : Nat → Nat → Nat) (a0 : Nat) (x1 : Int32) (I : St) : Option Int32 := (chk x1 2 ((if (I (R a0 2) x1.toNatClampNeg) = (-1 : Int32) then some (0 : Int32) else some (1 : Int32))))
set_option maxHeartbeats 4000000 in
set_option maxRecDepth 100000 in
theorem c_Txn_hasReadIn (l : Launch) {g : Sg} {R : Nat → Nat → Nat} (hT : Ty g R) {a0 : Nat} (o0 : okA g 3 0 a0) {x1 : Int32} {I : St} {v : Int32} (h : F_Txn_hasReadIn R a0 x1 I = some v) : Cti l g R y_Txn_hasReadIn w_Txn_hasReadIn 0 0 [.ref a0, .int x1] I v I := by
  unfold Cti
  refine Met.ofW (cc := b_Txn_hasReadIn) (maxL := 2) (ret := (some .boolean)) (by decide) rfl ?_
  intro p e s m args below meth c s₁ B hml hv
  obtain ⟨rfl, hP, hK⟩ := hv
  have hts := atoms_spec (ws := w_Txn_hasReadIn) B.pre
  have hall : ∀ w ∈ w_all, w.before _ s = true := fun w hw => hts w (List.mem_cons_of_mem _ hw)
  have hown : s.vm.findClass R_Txn = some m.cls := findClass_of_methodNamed B.named
  have hx := B.exec
  have hb := B.bytes
  have hr := B.returns
  have hlk := B.notSynchronized
  have cx : Cx p s m _ meth c g R R_Txn b_Txn_hasReadIn 2 (some .boolean) := ⟨hx, hb, hml, hr, hlk, hown, hall, hT, hK⟩
  have hl := lv_entry ([.ref a0, .int x1]) (n := 2) (Nat.le_of_ble_eq_true rfl)
  rw [lg_entry_eq]
  generalize (lg_sl ([.ref a0, .int x1]) ++ List.replicate (2 - (lg_sl ([.ref a0, .int x1])).length) Slot.unset).toArray = ls at hl ⊢
  have hl : lv_has ls 2 [(0, .ref a0), (1, .int x1)] := hl
  have hS : va_S (· ∈ g.L) s.heap s.heap [] := va_S.rf
  unfold F_Txn_hasReadIn at h
  refine lv_aload_n hx hb d_Txn_hasReadIn_0 rfl (lv_at hl 0 rfl) ?_
  refine gg_get (C := R_Txn) (T := F_Txn) (N := 5) (ci := 3) hx hb hall i_Txn hown hK hP o0.1 (wE_3 o0.2) rfl 2 (by decide) (hall _ m_170) (fun _ h9 => h9) rfl d_Txn_hasReadIn_1 ?_
  have o_1 : okA g 6 2 (R a0 2) := ty_Txn_2 hT o0
  refine lv_iload_n hx hb d_Txn_hasReadIn_4 rfl (lv_at hl 1 rfl) ?_
  obtain ⟨hi5, h⟩ := chk_el h
  refine gg_iald hx hb hK hP o_1 hi5 d_Txn_hasReadIn_5 ?_
  refine lv_iconst (v := (-1)) hx hb d_Txn_hasReadIn_6 (by decide) ?_
  refine lv_icmp_eq hx hb d_Txn_hasReadIn_7 rfl (fun hc => ?_) (fun hc => ?_)
  · replace h := i_pos hc h
    refine lv_iconst (v := 0) hx hb d_Txn_hasReadIn_14 (by decide) ?_
    obtain rfl := Option.some.inj h
    exact gg_zret hx hb hr hlk rfl hK hP hS d_Txn_hasReadIn_15
  · replace h := i_neg hc h
    refine lv_iconst (v := 1) hx hb d_Txn_hasReadIn_10 (by decide) ?_
    refine lv_goto hx hb d_Txn_hasReadIn_11 rfl ?_
    obtain rfl := Option.some.inj h
    exact gg_zret hx hb hr hlk rfl hK hP hS d_Txn_hasReadIn_15
abbrev b_Store_holdsReads : ByteArray := prog_1_method_33_code
def y_Store_holdsReads : MethodName := ⟨"StampedStore", "holdsReads", "(LStampedStore$Transaction;I)Z"⟩
def w_Store_holdsReads : List Cond := .code y_Store_holdsReads b_Store_holdsReads 4 (some .boolean) :: w_all
theorem d_Store_holdsReads_0 : decode b_Store_holdsReads 0 = .ok (.aload_n 0, 1) := by decide +kernel
theorem d_Store_holdsReads_1 : decode b_Store_holdsReads 1 = .ok (.iload_n 2, 1) := by decide +kernel
theorem d_Store_holdsReads_2 : decode b_Store_holdsReads 2 = .ok (.invokevirtual 141, 3) := by decide +kernel
theorem d_Store_holdsReads_5 : decode b_Store_holdsReads 5 = .ok (.istore_n 3, 1) := by decide +kernel
theorem d_Store_holdsReads_6 : decode b_Store_holdsReads 6 = .ok (.iload_n 3, 1) := by decide +kernel
theorem d_Store_holdsReads_7 : decode b_Store_holdsReads 7 = .ok (.iconst (-1), 1) := by decide +kernel
theorem d_Store_holdsReads_8 : decode b_Store_holdsReads 8 = .ok (.if_icmp .eq 25, 3) := by decide +kernel
theorem d_Store_holdsReads_11 : decode b_Store_holdsReads 11 = .ok (.aload_n 0, 1) := by decide +kernel
theorem d_Store_holdsReads_12 : decode b_Store_holdsReads 12 = .ok (.getfield 11, 3) := by decide +kernel
theorem d_Store_holdsReads_15 : decode b_Store_holdsReads 15 = .ok (.iload_n 3, 1) := by decide +kernel
theorem d_Store_holdsReads_16 : decode b_Store_holdsReads 16 = .ok (.aaload, 1) := by decide +kernel
theorem d_Store_holdsReads_17 : decode b_Store_holdsReads 17 = .ok (.getfield 63, 3) := by decide +kernel
theorem d_Store_holdsReads_20 : decode b_Store_holdsReads 20 = .ok (.aload_n 1, 1) := by decide +kernel
theorem d_Store_holdsReads_21 : decode b_Store_holdsReads 21 = .ok (.getfield 224, 3) := by decide +kernel
theorem d_Store_holdsReads_24 : decode b_Store_holdsReads 24 = .ok (.iload_n 2, 1) := by decide +kernel
theorem d_Store_holdsReads_25 : decode b_Store_holdsReads 25 = .ok (.iaload, 1) := by decide +kernel
theorem d_Store_holdsReads_26 : decode b_Store_holdsReads 26 = .ok (.if_icmp .ne 7, 3) := by decide +kernel
theorem d_Store_holdsReads_29 : decode b_Store_holdsReads 29 = .ok (.iconst 1, 1) := by decide +kernel
theorem d_Store_holdsReads_30 : decode b_Store_holdsReads 30 = .ok (.goto 4, 3) := by decide +kernel
theorem d_Store_holdsReads_33 : decode b_Store_holdsReads 33 = .ok (.iconst 0, 1) := by decide +kernel
theorem d_Store_holdsReads_34 : decode b_Store_holdsReads 34 = .ok (.ireturn, 1) := by decide +kernel
def B_Store_holdsReads_33 (R : Nat → Nat → Nat) (I : St) : Option Int32 := some (0 : Int32)
set_option maxHeartbeats 4000000 in
set_option maxRecDepth 100000 in
theorem b_Store_holdsReads_33 {p : Program} {l : Launch} {e : Env} {s : State} {m : MethodId} {args : Array Value} {below : List Frame} {meth : Method} {c : Code} {g : Sg} {R : Nat → Nat → Nat} {I : St} {v : Int32} (cx : Cx p s m args meth c g R R_Store b_Store_holdsReads 4 (some .boolean)) : ∀ (H : Heap) (locs : List Loc) (ls : Array Slot), B_Store_holdsReads_33 R I = some v → wW g R I H → va_S (· ∈ g.L) s.heap H locs → lv_has ls 4 [] → W p l e { frames := 3, cells := 0, slots := 0, locals := 63 } s m args below meth c H locs 0 0 (MQ below (Qi g R v I) args s 0 0 (· ∈ g.L)) (F0 m 33 ls []) := by
  have ⟨hx, hb, hml, hr, hlk, hown, hall, hT, hK⟩ := cx
  intro H locs ls h hP hS hl
  unfold B_Store_holdsReads_33 at h
  refine lv_iconst (v := 0) hx hb d_Store_holdsReads_33 (by decide) ?_
  obtain rfl := Option.some.inj h
  exact gg_zret hx hb hr hlk rfl hK hP hS d_Store_holdsReads_34
def F_Store_holdsReads (R : Nat → Nat → Nat) (a0 : Nat) (a1 : Nat) (x2 : Int32) (I : St) : Option Int32 := (ob (F_Store_readyNode R a0 x2 I) (fun v2 => (if v2 = (-1 : Int32) then B_Store_holdsReads_33 R I else (chk v2 6 ((chk x2 2 ((if (I (R (R a0 1) v2.toNatClampNeg) 6) = (I (R a1 2) x2.toNatClampNeg) then some (1 : Int32) else B_Store_holdsReads_33 R I))))))))
set_option maxHeartbeats 4000000 in
set_option maxRecDepth 100000 in
theorem c_Store_holdsReads (l : Launch) {g : Sg} {R : Nat → Nat → Nat} (hT : Ty g R) {a0 : Nat} (o0 : okA g 4 0 a0) {a1 : Nat} (o1 : okA g 3 0 a1) {x2 : Int32} {I : St} {v : Int32} (h : F_Store_holdsReads R a0 a1 x2 I = some v) : Cti l g R y_Store_holdsReads w_Store_holdsReads 3 63 [.ref a0, .ref a1, .int x2] I v I := by
  unfold Cti
  refine Met.ofW (cc := b_Store_holdsReads) (maxL := 4) (ret := (some .boolean)) (by decide) rfl ?_
  intro p e s m args below meth c s₁ B hml hv
  obtain ⟨rfl, hP, hK⟩ := hv
  have hts := atoms_spec (ws := w_Store_holdsReads) B.pre
  have hall : ∀ w ∈ w_all, w.before _ s = true := fun w hw => hts w (List.mem_cons_of_mem _ hw)
  have hown : s.vm.findClass R_Store = some m.cls := findClass_of_methodNamed B.named
  have hx := B.exec
  have hb := B.bytes
  have hr := B.returns
  have hlk := B.notSynchronized
  have cx : Cx p s m _ meth c g R R_Store b_Store_holdsReads 4 (some .boolean) := ⟨hx, hb, hml, hr, hlk, hown, hall, hT, hK⟩
  have hl := lv_entry ([.ref a0, .ref a1, .int x2]) (n := 4) (Nat.le_of_ble_eq_true rfl)
  rw [lg_entry_eq]
  generalize (lg_sl ([.ref a0, .ref a1, .int x2]) ++ List.replicate (4 - (lg_sl ([.ref a0, .ref a1, .int x2])).length) Slot.unset).toArray = ls at hl ⊢
  have hl : lv_has ls 4 [(0, .ref a0), (1, .ref a1), (2, .int x2)] := hl
  have hS : va_S (· ∈ g.L) s.heap s.heap [] := va_S.rf
  unfold F_Store_holdsReads at h
  refine lv_aload_n hx hb d_Store_holdsReads_0 rfl (lv_at hl 0 rfl) ?_
  refine lv_iload_n hx hb d_Store_holdsReads_1 rfl (lv_at hl 2 rfl) ?_
  obtain ⟨v2, e2, h⟩ := ob_el h
  refine gg_Vi (As := [.int x2]) (rest := []) (ci := 4) (C := R_Store) (T := F_Store) (N := 4) ⟨hx, hb, hml, hown, hall⟩ (c_Store_readyNode l hT o0 e2) (cwV 1 hall (gV m_172 m_173 m_174 m_6 m_169) rfl rfl rfl (by decide +kernel) ⟨Nat.le_of_ble_eq_true rfl, Nat.le_of_ble_eq_true rfl⟩) hK hP hS o0.1 (wE_4 o0.2) rfl rfl hl.1 rfl (Nat.le_of_ble_eq_true rfl) d_Store_holdsReads_2 (fun H locs hP hS => ?_)
  refine lv_istore_n (lv' := [(3, .int v2), (0, .ref a0), (1, .ref a1), (2, .int x2)]) hx hb d_Store_holdsReads_5 rfl hl (Nat.le_of_ble_eq_true rfl) rfl (fun ls hl => ?_)
  refine lv_iload_n hx hb d_Store_holdsReads_6 rfl (lv_at hl 0 rfl) ?_
  refine lv_iconst (v := (-1)) hx hb d_Store_holdsReads_7 (by decide) ?_
  refine lv_icmp_eq hx hb d_Store_holdsReads_8 rfl (fun hc => ?_) (fun hc => ?_)
  · replace h := i_pos hc h
    exact b_Store_holdsReads_33 cx _ _ _ h hP hS (lv_sub hl [] rfl)
  · replace h := i_neg hc h
    refine lv_aload_n hx hb d_Store_holdsReads_11 rfl (lv_at hl 1 rfl) ?_
    refine gg_get (C := R_Store) (T := F_Store) (N := 4) (ci := 4) hx hb hall i_Store hown hK hP o0.1 (wE_4 o0.2) rfl 1 (by decide) (hall _ m_8) (fun _ h9 => h9) rfl d_Store_holdsReads_12 ?_
    have o_12 : okA g 8 6 (R a0 1) := ty_Store_1 hT o0
    refine lv_iload_n hx hb d_Store_holdsReads_15 rfl (lv_at hl 0 rfl) ?_
    obtain ⟨hi16, h⟩ := chk_el h
    refine gg_nald hx hb hK hP o_12 hi16 d_Store_holdsReads_16 ?_
    have o_16 : okA g 2 0 (R (R a0 1) v2.toNatClampNeg) := ty_8 hT o_12 _
    refine gg_get (C := R_Node) (T := F_Node) (N := 10) (ci := 2) hx hb hall i_Node hown hK hP o_16.1 (wE_2 o_16.2) rfl 6 (by decide) (hall _ m_107) (fun _ h9 => h9) rfl d_Store_holdsReads_17 ?_
    refine lv_aload_n hx hb d_Store_holdsReads_20 rfl (lv_at hl 2 rfl) ?_
    refine gg_get (C := R_Txn) (T := F_Txn) (N := 5) (ci := 3) hx hb hall i_Txn hown hK hP o1.1 (wE_3 o1.2) rfl 2 (by decide) (hall _ m_175) (fun _ h9 => h9) rfl d_Store_holdsReads_21 ?_
    have o_21 : okA g 6 2 (R a1 2) := ty_Txn_2 hT o1
    refine lv_iload_n hx hb d_Store_holdsReads_24 rfl (lv_at hl 3 rfl) ?_
    obtain ⟨hi25, h⟩ := chk_el h
    refine gg_iald hx hb hK hP o_21 hi25 d_Store_holdsReads_25 ?_
    refine lv_icmp_ne hx hb d_Store_holdsReads_26 rfl (fun hc => ?_) (fun hc => ?_)
    · replace h := i_neg hc h
      exact b_Store_holdsReads_33 cx _ _ _ h hP hS (lv_sub hl [] rfl)
    · replace h := i_pos hc h
      refine lv_iconst (v := 1) hx hb d_Store_holdsReads_29 (by decide) ?_
      refine lv_goto hx hb d_Store_holdsReads_30 rfl ?_
      obtain rfl := Option.some.inj h
      exact gg_zret hx hb hr hlk rfl hK hP hS d_Store_holdsReads_34
abbrev b_Store_hasLostReads : ByteArray := prog_1_method_34_code
def y_Store_hasLostReads : MethodName := ⟨"StampedStore", "hasLostReads", "(LStampedStore$Transaction;I)Z"⟩
def w_Store_hasLostReads : List Cond := .code y_Store_hasLostReads b_Store_hasLostReads 3 (some .boolean) :: w_all
theorem d_Store_hasLostReads_0 : decode b_Store_hasLostReads 0 = .ok (.aload_n 1, 1) := by decide +kernel
theorem d_Store_hasLostReads_1 : decode b_Store_hasLostReads 1 = .ok (.iload_n 2, 1) := by decide +kernel
theorem d_Store_hasLostReads_2 : decode b_Store_hasLostReads 2 = .ok (.invokevirtual 227, 3) := by decide +kernel
theorem d_Store_hasLostReads_5 : decode b_Store_hasLostReads 5 = .ok (.ifCond .eq 16, 3) := by decide +kernel
theorem d_Store_hasLostReads_8 : decode b_Store_hasLostReads 8 = .ok (.aload_n 0, 1) := by decide +kernel
theorem d_Store_hasLostReads_9 : decode b_Store_hasLostReads 9 = .ok (.aload_n 1, 1) := by decide +kernel
theorem d_Store_hasLostReads_10 : decode b_Store_hasLostReads 10 = .ok (.iload_n 2, 1) := by decide +kernel
theorem d_Store_hasLostReads_11 : decode b_Store_hasLostReads 11 = .ok (.invokevirtual 230, 3) := by decide +kernel
theorem d_Store_hasLostReads_14 : decode b_Store_hasLostReads 14 = .ok (.ifCond .ne 7, 3) := by decide +kernel
theorem d_Store_hasLostReads_17 : decode b_Store_hasLostReads 17 = .ok (.iconst 1, 1) := by decide +kernel
theorem d_Store_hasLostReads_18 : decode b_Store_hasLostReads 18 = .ok (.goto 4, 3) := by decide +kernel
theorem d_Store_hasLostReads_21 : decode b_Store_hasLostReads 21 = .ok (.iconst 0, 1) := by decide +kernel
theorem d_Store_hasLostReads_22 : decode b_Store_hasLostReads 22 = .ok (.ireturn, 1) := by decide +kernel
def B_Store_hasLostReads_21 (R : Nat → Nat → Nat) (I : St) : Option Int32 := some (0 : Int32)
set_option maxHeartbeats 4000000 in
set_option maxRecDepth 100000 in
theorem b_Store_hasLostReads_21 {p : Program} {l : Launch} {e : Env} {s : State} {m : MethodId} {args : Array Value} {below : List Frame} {meth : Method} {c : Code} {g : Sg} {R : Nat → Nat → Nat} {I : St} {v : Int32} (cx : Cx p s m args meth c g R R_Store b_Store_hasLostReads 3 (some .boolean)) : ∀ (H : Heap) (locs : List Loc) (ls : Array Slot), B_Store_hasLostReads_21 R I = some v → wW g R I H → va_S (· ∈ g.L) s.heap H locs → lv_has ls 3 [] → W p l e { frames := 4, cells := 0, slots := 0, locals := 86 } s m args below meth c H locs 0 0 (MQ below (Qi g R v I) args s 0 0 (· ∈ g.L)) (F0 m 21 ls []) := by
  have ⟨hx, hb, hml, hr, hlk, hown, hall, hT, hK⟩ := cx
  intro H locs ls h hP hS hl
  unfold B_Store_hasLostReads_21 at h
  refine lv_iconst (v := 0) hx hb d_Store_hasLostReads_21 (by decide) ?_
  obtain rfl := Option.some.inj h
  exact gg_zret hx hb hr hlk rfl hK hP hS d_Store_hasLostReads_22
def F_Store_hasLostReads (R : Nat → Nat → Nat) (a0 : Nat) (a1 : Nat) (x2 : Int32) (I : St) : Option Int32 := (ob (F_Txn_hasReadIn R a1 x2 I) (fun v2 => (if v2 = 0 then B_Store_hasLostReads_21 R I else (ob (F_Store_holdsReads R a0 a1 x2 I) (fun v11 => (if v11 = 0 then some (1 : Int32) else B_Store_hasLostReads_21 R I))))))
set_option maxHeartbeats 4000000 in
set_option maxRecDepth 100000 in
theorem c_Store_hasLostReads (l : Launch) {g : Sg} {R : Nat → Nat → Nat} (hT : Ty g R) {a0 : Nat} (o0 : okA g 4 0 a0) {a1 : Nat} (o1 : okA g 3 0 a1) {x2 : Int32} {I : St} {v : Int32} (h : F_Store_hasLostReads R a0 a1 x2 I = some v) : Cti l g R y_Store_hasLostReads w_Store_hasLostReads 4 86 [.ref a0, .ref a1, .int x2] I v I := by
  unfold Cti
  refine Met.ofW (cc := b_Store_hasLostReads) (maxL := 3) (ret := (some .boolean)) (by decide) rfl ?_
  intro p e s m args below meth c s₁ B hml hv
  obtain ⟨rfl, hP, hK⟩ := hv
  have hts := atoms_spec (ws := w_Store_hasLostReads) B.pre
  have hall : ∀ w ∈ w_all, w.before _ s = true := fun w hw => hts w (List.mem_cons_of_mem _ hw)
  have hown : s.vm.findClass R_Store = some m.cls := findClass_of_methodNamed B.named
  have hx := B.exec
  have hb := B.bytes
  have hr := B.returns
  have hlk := B.notSynchronized
  have cx : Cx p s m _ meth c g R R_Store b_Store_hasLostReads 3 (some .boolean) := ⟨hx, hb, hml, hr, hlk, hown, hall, hT, hK⟩
  have hl := lv_entry ([.ref a0, .ref a1, .int x2]) (n := 3) (Nat.le_of_ble_eq_true rfl)
  rw [lg_entry_eq]
  generalize (lg_sl ([.ref a0, .ref a1, .int x2]) ++ List.replicate (3 - (lg_sl ([.ref a0, .ref a1, .int x2])).length) Slot.unset).toArray = ls at hl ⊢
  have hl : lv_has ls 3 [(0, .ref a0), (1, .ref a1), (2, .int x2)] := hl
  have hS : va_S (· ∈ g.L) s.heap s.heap [] := va_S.rf
  unfold F_Store_hasLostReads at h
  refine lv_aload_n hx hb d_Store_hasLostReads_0 rfl (lv_at hl 1 rfl) ?_
  refine lv_iload_n hx hb d_Store_hasLostReads_1 rfl (lv_at hl 2 rfl) ?_
  obtain ⟨v2, e2, h⟩ := ob_el h
  refine gg_Vi (As := [.int x2]) (rest := []) (ci := 3) (C := R_Txn) (T := F_Txn) (N := 5) ⟨hx, hb, hml, hown, hall⟩ (c_Txn_hasReadIn l hT o1 e2) (cwV 1 hall (gV m_177 m_178 m_179 m_180 m_171) rfl rfl rfl (by decide +kernel) ⟨Nat.le_of_ble_eq_true rfl, Nat.le_of_ble_eq_true rfl⟩) hK hP hS o1.1 (wE_3 o1.2) rfl rfl hl.1 rfl (Nat.le_of_ble_eq_true rfl) d_Store_hasLostReads_2 (fun H locs hP hS => ?_)
  refine lv_if_eq hx hb d_Store_hasLostReads_5 rfl (fun hc => ?_) (fun hc => ?_)
  · replace h := i_pos hc h
    exact b_Store_hasLostReads_21 cx _ _ _ h hP hS (lv_sub hl [] rfl)
  · replace h := i_neg hc h
    refine lv_aload_n hx hb d_Store_hasLostReads_8 rfl (lv_at hl 0 rfl) ?_
    refine lv_aload_n hx hb d_Store_hasLostReads_9 rfl (lv_at hl 1 rfl) ?_
    refine lv_iload_n hx hb d_Store_hasLostReads_10 rfl (lv_at hl 2 rfl) ?_
    obtain ⟨v11, e11, h⟩ := ob_el h
    refine gg_Vi (As := [.ref a1, .int x2]) (rest := []) (ci := 4) (C := R_Store) (T := F_Store) (N := 4) ⟨hx, hb, hml, hown, hall⟩ (c_Store_holdsReads l hT o0 o1 e11) (cwV 2 hall (gV m_181 m_182 m_183 m_6 m_176) rfl rfl rfl (by decide +kernel) ⟨Nat.le_of_ble_eq_true rfl, Nat.le_of_ble_eq_true rfl⟩) hK hP hS o0.1 (wE_4 o0.2) rfl rfl hl.1 rfl (Nat.le_of_ble_eq_true rfl) d_Store_hasLostReads_11 (fun H locs hP hS => ?_)
    refine lv_if_ne hx hb d_Store_hasLostReads_14 rfl (fun hc => ?_) (fun hc => ?_)
    · replace h := i_neg hc h
      exact b_Store_hasLostReads_21 cx _ _ _ h hP hS (lv_sub hl [] rfl)
    · replace h := i_pos hc h
      refine lv_iconst (v := 1) hx hb d_Store_hasLostReads_17 (by decide) ?_
      refine lv_goto hx hb d_Store_hasLostReads_18 rfl ?_
      obtain rfl := Option.some.inj h
      exact gg_zret hx hb hr hlk rfl hK hP hS d_Store_hasLostReads_22
abbrev b_Log_find : ByteArray := prog_3_method_9_code
def y_Log_find : MethodName := ⟨"StampedStore$Log", "find", "(II)I"⟩
def w_Log_find : List Cond := .code y_Log_find b_Log_find 4 (some .int) :: w_all
theorem d_Log_find_0 : decode b_Log_find 0 = .ok (.iconst 0, 1) := by decide +kernel
theorem d_Log_find_1 : decode b_Log_find 1 = .ok (.istore_n 3, 1) := by decide +kernel
theorem d_Log_find_2 : decode b_Log_find 2 = .ok (.iload_n 3, 1) := by decide +kernel
theorem d_Log_find_3 : decode b_Log_find 3 = .ok (.aload_n 0, 1) := by decide +kernel
theorem d_Log_find_4 : decode b_Log_find 4 = .ok (.getfield 27, 3) := by decide +kernel
theorem d_Log_find_7 : decode b_Log_find 7 = .ok (.if_icmp .ge 31, 3) := by decide +kernel
theorem d_Log_find_10 : decode b_Log_find 10 = .ok (.aload_n 0, 1) := by decide +kernel
theorem d_Log_find_11 : decode b_Log_find 11 = .ok (.getfield 18, 3) := by decide +kernel
theorem d_Log_find_14 : decode b_Log_find 14 = .ok (.iload_n 3, 1) := by decide +kernel
theorem d_Log_find_15 : decode b_Log_find 15 = .ok (.iaload, 1) := by decide +kernel
theorem d_Log_find_16 : decode b_Log_find 16 = .ok (.iload_n 1, 1) := by decide +kernel
theorem d_Log_find_17 : decode b_Log_find 17 = .ok (.if_icmp .ne 15, 3) := by decide +kernel
theorem d_Log_find_20 : decode b_Log_find 20 = .ok (.aload_n 0, 1) := by decide +kernel
theorem d_Log_find_21 : decode b_Log_find 21 = .ok (.getfield 21, 3) := by decide +kernel
theorem d_Log_find_24 : decode b_Log_find 24 = .ok (.iload_n 3, 1) := by decide +kernel
theorem d_Log_find_25 : decode b_Log_find 25 = .ok (.iaload, 1) := by decide +kernel
theorem d_Log_find_26 : decode b_Log_find 26 = .ok (.iload_n 2, 1) := by decide +kernel
theorem d_Log_find_27 : decode b_Log_find 27 = .ok (.if_icmp .ne 5, 3) := by decide +kernel
theorem d_Log_find_30 : decode b_Log_find 30 = .ok (.iload_n 3, 1) := by decide +kernel
theorem d_Log_find_31 : decode b_Log_find 31 = .ok (.ireturn, 1) := by decide +kernel
theorem d_Log_find_32 : decode b_Log_find 32 = .ok (.iinc 3 1, 3) := by decide +kernel
theorem d_Log_find_35 : decode b_Log_find 35 = .ok (.goto (-33), 3) := by decide +kernel
theorem d_Log_find_38 : decode b_Log_find 38 = .ok (.iconst (-1), 1) := by decide +kernel
theorem d_Log_find_39 : decode b_Log_find 39 = .ok (.ireturn, 1) := by decide +kernel
def B_Log_find_32 (R : Nat → Nat → Nat) (I : St) (k2 : Nat → Int32 → Int32 → Int32 → Option Int32) (a0 : Nat) (x1 : Int32) (x2 : Int32) (x3 : Int32) : Option Int32 := k2 a0 x1 x2 (x3 + 1)
set_option maxHeartbeats 4000000 in
set_option maxRecDepth 100000 in
theorem b_Log_find_32 {p : Program} {l : Launch} {e : Env} {s : State} {m : MethodId} {args : Array Value} {below : List Frame} {meth : Method} {c : Code} {g : Sg} {R : Nat → Nat → Nat} {I : St} {v : Int32} (cx : Cx p s m args meth c g R R_Log b_Log_find 4 (some .int)) {k2 : Nat → Int32 → Int32 → Int32 → Option Int32} (hk2 : ∀ (a0 : Nat) (x1 : Int32) (x2 : Int32) (x3 : Int32) (H : Heap) (locs : List Loc) (ls : Array Slot), okA g 1 0 a0 → k2 a0 x1 x2 x3 = some v → wW g R I H → va_S (· ∈ g.L) s.heap H locs → lv_has ls 4 [(0, .ref a0), (1, .int x1), (2, .int x2), (3, .int x3)] → W p l e { frames := 0, cells := 0, slots := 0, locals := 0 } s m args below meth c H locs 0 0 (MQ below (Qi g R v I) args s 0 0 (· ∈ g.L)) (F0 m 2 ls [])) : ∀ (a0 : Nat) (x1 : Int32) (x2 : Int32) (x3 : Int32) (H : Heap) (locs : List Loc) (ls : Array Slot), okA g 1 0 a0 → B_Log_find_32 R I k2 a0 x1 x2 x3 = some v → wW g R I H → va_S (· ∈ g.L) s.heap H locs → lv_has ls 4 [(0, .ref a0), (1, .int x1), (2, .int x2), (3, .int x3)] → W p l e { frames := 0, cells := 0, slots := 0, locals := 0 } s m args below meth c H locs 0 0 (MQ below (Qi g R v I) args s 0 0 (· ∈ g.L)) (F0 m 32 ls []) := by
  have ⟨hx, hb, hml, hr, hlk, hown, hall, hT, hK⟩ := cx
  intro a0 x1 x2 x3 H locs ls o0 h hP hS hl
  unfold B_Log_find_32 at h
  refine lv_iinc (k := 3) (v := (x3 + 1)) (lv' := [(3, .int (x3 + 1)), (0, .ref a0), (1, .int x1), (2, .int x2)]) hx hb d_Log_find_32 hl rfl (by rw [show Int32.ofInt 1 = (1 : Int32) from by decide]) (Nat.le_of_ble_eq_true rfl) rfl (fun ls hl => ?_)
  refine lv_goto hx hb d_Log_find_35 rfl ?_
  exact hk2 _ _ _ _ _ _ _ o0 h hP hS (lv_sub hl [1, 2, 3, 0] rfl)
def B_Log_find_2 (R : Nat → Nat → Nat) (I : St) : Nat → Nat → Int32 → Int32 → Int32 → Option Int32
  | 0, _, _, _, _ => none
  | f + 1, a0, x1, x2, x3 => (if (I a0 5) ≤ x3 then some (-1 : Int32) else (chk x3 60 ((if (I (R a0 2) x3.toNatClampNeg) = x1 then (chk x3 60 ((if (I (R a0 3) x3.toNatClampNeg) = x2 then some x3 else B_Log_find_32 R I (B_Log_find_2 R I f) a0 x1 x2 x3))) else B_Log_find_32 R I (B_Log_find_2 R I f) a0 x1 x2 x3))))
set_option maxHeartbeats 4000000 in
set_option maxRecDepth 100000 in
theorem b_Log_find_2 {p : Program} {l : Launch} {e : Env} {s : State} {m : MethodId} {args : Array Value} {below : List Frame} {meth : Method} {c : Code} {g : Sg} {R : Nat → Nat → Nat} {I : St} {v : Int32} (cx : Cx p s m args meth c g R R_Log b_Log_find 4 (some .int)) (f : Nat) : ∀ (a0 : Nat) (x1 : Int32) (x2 : Int32) (x3 : Int32) (H : Heap) (locs : List Loc) (ls : Array Slot), okA g 1 0 a0 → B_Log_find_2 R I f a0 x1 x2 x3 = some v → wW g R I H → va_S (· ∈ g.L) s.heap H locs → lv_has ls 4 [(0, .ref a0), (1, .int x1), (2, .int x2), (3, .int x3)] → W p l e { frames := 0, cells := 0, slots := 0, locals := 0 } s m args below meth c H locs 0 0 (MQ below (Qi g R v I) args s 0 0 (· ∈ g.L)) (F0 m 2 ls []) := by
  have ⟨hx, hb, hml, hr, hlk, hown, hall, hT, hK⟩ := cx
  induction f with
  | zero => intro a0 x1 x2 x3 H locs ls o0 h; unfold B_Log_find_2 at h; cases h
  | succ f ih =>
    intro a0 x1 x2 x3 H locs ls o0 h hP hS hl
    unfold B_Log_find_2 at h
    refine lv_iload_n hx hb d_Log_find_2 rfl (lv_at hl 3 rfl) ?_
    refine lv_aload_n hx hb d_Log_find_3 rfl (lv_at hl 0 rfl) ?_
    refine gg_get (C := R_Log) (T := F_Log) (N := 7) (ci := 1) hx hb hall i_Log hown hK hP o0.1 (wE_1 o0.2) rfl 5 (by decide) (hall _ m_32) (fun _ h9 => h9) rfl d_Log_find_4 ?_
    refine lv_icmp_ge hx hb d_Log_find_7 rfl (fun hc => ?_) (fun hc => ?_)
    · replace h := i_pos hc h
      refine lv_iconst (v := (-1)) hx hb d_Log_find_38 (by decide) ?_
      obtain rfl := Option.some.inj h
      exact gg_iret hx hb hr hlk hK hP hS d_Log_find_39
    · replace h := i_neg hc h
      refine lv_aload_n hx hb d_Log_find_10 rfl (lv_at hl 0 rfl) ?_
      refine gg_get (C := R_Log) (T := F_Log) (N := 7) (ci := 1) hx hb hall i_Log hown hK hP o0.1 (wE_1 o0.2) rfl 2 (by decide) (hall _ m_88) (fun _ h9 => h9) rfl d_Log_find_11 ?_
      have o_11 : okA g 6 60 (R a0 2) := ty_Log_2 hT o0
      refine lv_iload_n hx hb d_Log_find_14 rfl (lv_at hl 3 rfl) ?_
      obtain ⟨hi15, h⟩ := chk_el h
      refine gg_iald hx hb hK hP o_11 hi15 d_Log_find_15 ?_
      refine lv_iload_n hx hb d_Log_find_16 rfl (lv_at hl 1 rfl) ?_
      refine lv_icmp_ne hx hb d_Log_find_17 rfl (fun hc => ?_) (fun hc => ?_)
      · replace h := i_neg hc h
        exact b_Log_find_32 cx ih _ _ _ _ _ _ _ o0 h hP hS (lv_sub hl [0, 1, 2, 3] rfl)
      · replace h := i_pos hc h
        refine lv_aload_n hx hb d_Log_find_20 rfl (lv_at hl 0 rfl) ?_
        refine gg_get (C := R_Log) (T := F_Log) (N := 7) (ci := 1) hx hb hall i_Log hown hK hP o0.1 (wE_1 o0.2) rfl 3 (by decide) (hall _ m_89) (fun _ h9 => h9) rfl d_Log_find_21 ?_
        have o_21 : okA g 6 60 (R a0 3) := ty_Log_3 hT o0
        refine lv_iload_n hx hb d_Log_find_24 rfl (lv_at hl 3 rfl) ?_
        obtain ⟨hi25, h⟩ := chk_el h
        refine gg_iald hx hb hK hP o_21 hi25 d_Log_find_25 ?_
        refine lv_iload_n hx hb d_Log_find_26 rfl (lv_at hl 2 rfl) ?_
        refine lv_icmp_ne hx hb d_Log_find_27 rfl (fun hc => ?_) (fun hc => ?_)
        · replace h := i_neg hc h
          exact b_Log_find_32 cx ih _ _ _ _ _ _ _ o0 h hP hS (lv_sub hl [0, 1, 2, 3] rfl)
        · replace h := i_pos hc h
          refine lv_iload_n hx hb d_Log_find_30 rfl (lv_at hl 3 rfl) ?_
          obtain rfl := Option.some.inj h
          exact gg_iret hx hb hr hlk hK hP hS d_Log_find_31
def F_Log_find (R : Nat → Nat → Nat) (a0 : Nat) (x1 : Int32) (x2 : Int32) (I : St) : Option Int32 := B_Log_find_2 R I 100 a0 x1 x2 (0 : Int32)
set_option maxHeartbeats 4000000 in
set_option maxRecDepth 100000 in
theorem c_Log_find (l : Launch) {g : Sg} {R : Nat → Nat → Nat} (hT : Ty g R) {a0 : Nat} (o0 : okA g 1 0 a0) {x1 : Int32} {x2 : Int32} {I : St} {v : Int32} (h : F_Log_find R a0 x1 x2 I = some v) : Cti l g R y_Log_find w_Log_find 0 0 [.ref a0, .int x1, .int x2] I v I := by
  unfold Cti
  refine Met.ofW (cc := b_Log_find) (maxL := 4) (ret := (some .int)) (by decide) rfl ?_
  intro p e s m args below meth c s₁ B hml hv
  obtain ⟨rfl, hP, hK⟩ := hv
  have hts := atoms_spec (ws := w_Log_find) B.pre
  have hall : ∀ w ∈ w_all, w.before _ s = true := fun w hw => hts w (List.mem_cons_of_mem _ hw)
  have hown : s.vm.findClass R_Log = some m.cls := findClass_of_methodNamed B.named
  have hx := B.exec
  have hb := B.bytes
  have hr := B.returns
  have hlk := B.notSynchronized
  have cx : Cx p s m _ meth c g R R_Log b_Log_find 4 (some .int) := ⟨hx, hb, hml, hr, hlk, hown, hall, hT, hK⟩
  have hl := lv_entry ([.ref a0, .int x1, .int x2]) (n := 4) (Nat.le_of_ble_eq_true rfl)
  rw [lg_entry_eq]
  generalize (lg_sl ([.ref a0, .int x1, .int x2]) ++ List.replicate (4 - (lg_sl ([.ref a0, .int x1, .int x2])).length) Slot.unset).toArray = ls at hl ⊢
  have hl : lv_has ls 4 [(0, .ref a0), (1, .int x1), (2, .int x2)] := hl
  have hS : va_S (· ∈ g.L) s.heap s.heap [] := va_S.rf
  unfold F_Log_find at h
  refine lv_iconst (v := 0) hx hb d_Log_find_0 (by decide) ?_
  refine lv_istore_n (lv' := [(3, .int (0 : Int32)), (0, .ref a0), (1, .int x1), (2, .int x2)]) hx hb d_Log_find_1 rfl hl (Nat.le_of_ble_eq_true rfl) rfl (fun ls hl => ?_)
  exact b_Log_find_2 cx 100 _ _ _ _ _ _ _ o0 h hP hS (lv_sub hl [1, 2, 3, 0] rfl)
abbrev b_Log_has : ByteArray := prog_3_method_10_code
def y_Log_has : MethodName := ⟨"StampedStore$Log", "has", "(II)Z"⟩
def w_Log_has : List Cond := .code y_Log_has b_Log_has 3 (some .boolean) :: w_all
theorem d_Log_has_0 : decode b_Log_has 0 = .ok (.aload_n 0, 1) := by decide +kernel
theorem d_Log_has_1 : decode b_Log_has 1 = .ok (.iload_n 1, 1) := by decide +kernel
theorem d_Log_has_2 : decode b_Log_has 2 = .ok (.iload_n 2, 1) := by decide +kernel
theorem d_Log_has_3 : decode b_Log_has 3 = .ok (.invokevirtual 48, 3) := by decide +kernel
theorem d_Log_has_6 : decode b_Log_has 6 = .ok (.iconst (-1), 1) := by decide +kernel
theorem d_Log_has_7 : decode b_Log_has 7 = .ok (.if_icmp .eq 7, 3) := by decide +kernel
theorem d_Log_has_10 : decode b_Log_has 10 = .ok (.iconst 1, 1) := by decide +kernel
theorem d_Log_has_11 : decode b_Log_has 11 = .ok (.goto 4, 3) := by decide +kernel
theorem d_Log_has_14 : decode b_Log_has 14 = .ok (.iconst 0, 1) := by decide +kernel
theorem d_Log_has_15 : decode b_Log_has 15 = .ok (.ireturn, 1) := by decide +kernel
def F_Log_has (R : Nat → Nat → Nat) (a0 : Nat) (x1 : Int32) (x2 : Int32) (I : St) : Option Int32 := (ob (F_Log_find R a0 x1 x2 I) (fun v3 => (if v3 = (-1 : Int32) then some (0 : Int32) else some (1 : Int32))))
set_option maxHeartbeats 4000000 in
set_option maxRecDepth 100000 in
theorem c_Log_has (l : Launch) {g : Sg} {R : Nat → Nat → Nat} (hT : Ty g R) {a0 : Nat} (o0 : okA g 1 0 a0) {x1 : Int32} {x2 : Int32} {I : St} {v : Int32} (h : F_Log_has R a0 x1 x2 I = some v) : Cti l g R y_Log_has w_Log_has 1 23 [.ref a0, .int x1, .int x2] I v I := by
  unfold Cti
  refine Met.ofW (cc := b_Log_has) (maxL := 3) (ret := (some .boolean)) (by decide) rfl ?_
  intro p e s m args below meth c s₁ B hml hv
  obtain ⟨rfl, hP, hK⟩ := hv
  have hts := atoms_spec (ws := w_Log_has) B.pre
  have hall : ∀ w ∈ w_all, w.before _ s = true := fun w hw => hts w (List.mem_cons_of_mem _ hw)
  have hown : s.vm.findClass R_Log = some m.cls := findClass_of_methodNamed B.named
  have hx := B.exec
  have hb := B.bytes
  have hr := B.returns
  have hlk := B.notSynchronized
  have cx : Cx p s m _ meth c g R R_Log b_Log_has 3 (some .boolean) := ⟨hx, hb, hml, hr, hlk, hown, hall, hT, hK⟩
  have hl := lv_entry ([.ref a0, .int x1, .int x2]) (n := 3) (Nat.le_of_ble_eq_true rfl)
  rw [lg_entry_eq]
  generalize (lg_sl ([.ref a0, .int x1, .int x2]) ++ List.replicate (3 - (lg_sl ([.ref a0, .int x1, .int x2])).length) Slot.unset).toArray = ls at hl ⊢
  have hl : lv_has ls 3 [(0, .ref a0), (1, .int x1), (2, .int x2)] := hl
  have hS : va_S (· ∈ g.L) s.heap s.heap [] := va_S.rf
  unfold F_Log_has at h
  refine lv_aload_n hx hb d_Log_has_0 rfl (lv_at hl 0 rfl) ?_
  refine lv_iload_n hx hb d_Log_has_1 rfl (lv_at hl 1 rfl) ?_
  refine lv_iload_n hx hb d_Log_has_2 rfl (lv_at hl 2 rfl) ?_
  obtain ⟨v3, e3, h⟩ := ob_el h
  refine gg_Vi (As := [.int x1, .int x2]) (rest := []) (ci := 1) (C := R_Log) (T := F_Log) (N := 7) ⟨hx, hb, hml, hown, hall⟩ (c_Log_find l hT o0 e3) (cwV 2 hall (gV m_186 m_187 m_188 m_38 m_185) rfl rfl rfl (by decide +kernel) ⟨Nat.le_of_ble_eq_true rfl, Nat.le_of_ble_eq_true rfl⟩) hK hP hS o0.1 (wE_1 o0.2) rfl rfl hl.1 rfl (Nat.le_of_ble_eq_true rfl) d_Log_has_3 (fun H locs hP hS => ?_)
  refine lv_iconst (v := (-1)) hx hb d_Log_has_6 (by decide) ?_
  refine lv_icmp_eq hx hb d_Log_has_7 rfl (fun hc => ?_) (fun hc => ?_)
  · replace h := i_pos hc h
    refine lv_iconst (v := 0) hx hb d_Log_has_14 (by decide) ?_
    obtain rfl := Option.some.inj h
    exact gg_zret hx hb hr hlk rfl hK hP hS d_Log_has_15
  · replace h := i_neg hc h
    refine lv_iconst (v := 1) hx hb d_Log_has_10 (by decide) ?_
    refine lv_goto hx hb d_Log_has_11 rfl ?_
    obtain rfl := Option.some.inj h
    exact gg_zret hx hb hr hlk rfl hK hP hS d_Log_has_15
abbrev b_Log_knows : ByteArray := prog_3_method_11_code
def y_Log_knows : MethodName := ⟨"StampedStore$Log", "knows", "(II)Z"⟩
def w_Log_knows : List Cond := .code y_Log_knows b_Log_knows 4 (some .boolean) :: w_all
theorem d_Log_knows_0 : decode b_Log_knows 0 = .ok (.aload_n 0, 1) := by decide +kernel
theorem d_Log_knows_1 : decode b_Log_knows 1 = .ok (.iload_n 1, 1) := by decide +kernel
theorem d_Log_knows_2 : decode b_Log_knows 2 = .ok (.iload_n 2, 1) := by decide +kernel
theorem d_Log_knows_3 : decode b_Log_knows 3 = .ok (.invokevirtual 48, 3) := by decide +kernel
theorem d_Log_knows_6 : decode b_Log_knows 6 = .ok (.istore_n 3, 1) := by decide +kernel
theorem d_Log_knows_7 : decode b_Log_knows 7 = .ok (.iload_n 3, 1) := by decide +kernel
theorem d_Log_knows_8 : decode b_Log_knows 8 = .ok (.iconst (-1), 1) := by decide +kernel
theorem d_Log_knows_9 : decode b_Log_knows 9 = .ok (.if_icmp .eq 15, 3) := by decide +kernel
theorem d_Log_knows_12 : decode b_Log_knows 12 = .ok (.iload_n 3, 1) := by decide +kernel
theorem d_Log_knows_13 : decode b_Log_knows 13 = .ok (.aload_n 0, 1) := by decide +kernel
theorem d_Log_knows_14 : decode b_Log_knows 14 = .ok (.getfield 39, 3) := by decide +kernel
theorem d_Log_knows_17 : decode b_Log_knows 17 = .ok (.if_icmp .ge 7, 3) := by decide +kernel
theorem d_Log_knows_20 : decode b_Log_knows 20 = .ok (.iconst 1, 1) := by decide +kernel
theorem d_Log_knows_21 : decode b_Log_knows 21 = .ok (.goto 4, 3) := by decide +kernel
theorem d_Log_knows_24 : decode b_Log_knows 24 = .ok (.iconst 0, 1) := by decide +kernel
theorem d_Log_knows_25 : decode b_Log_knows 25 = .ok (.ireturn, 1) := by decide +kernel
def B_Log_knows_24 (R : Nat → Nat → Nat) (I : St) : Option Int32 := some (0 : Int32)
set_option maxHeartbeats 4000000 in
set_option maxRecDepth 100000 in
theorem b_Log_knows_24 {p : Program} {l : Launch} {e : Env} {s : State} {m : MethodId} {args : Array Value} {below : List Frame} {meth : Method} {c : Code} {g : Sg} {R : Nat → Nat → Nat} {I : St} {v : Int32} (cx : Cx p s m args meth c g R R_Log b_Log_knows 4 (some .boolean)) : ∀ (H : Heap) (locs : List Loc) (ls : Array Slot), B_Log_knows_24 R I = some v → wW g R I H → va_S (· ∈ g.L) s.heap H locs → lv_has ls 4 [] → W p l e { frames := 1, cells := 0, slots := 0, locals := 23 } s m args below meth c H locs 0 0 (MQ below (Qi g R v I) args s 0 0 (· ∈ g.L)) (F0 m 24 ls []) := by
  have ⟨hx, hb, hml, hr, hlk, hown, hall, hT, hK⟩ := cx
  intro H locs ls h hP hS hl
  unfold B_Log_knows_24 at h
  refine lv_iconst (v := 0) hx hb d_Log_knows_24 (by decide) ?_
  obtain rfl := Option.some.inj h
  exact gg_zret hx hb hr hlk rfl hK hP hS d_Log_knows_25
def F_Log_knows (R : Nat → Nat → Nat) (a0 : Nat) (x1 : Int32) (x2 : Int32) (I : St) : Option Int32 := (ob (F_Log_find R a0 x1 x2 I) (fun v3 => (if v3 = (-1 : Int32) then B_Log_knows_24 R I else (if (I a0 6) ≤ v3 then B_Log_knows_24 R I else some (1 : Int32)))))
set_option maxHeartbeats 4000000 in
set_option maxRecDepth 100000 in
theorem c_Log_knows (l : Launch) {g : Sg} {R : Nat → Nat → Nat} (hT : Ty g R) {a0 : Nat} (o0 : okA g 1 0 a0) {x1 : Int32} {x2 : Int32} {I : St} {v : Int32} (h : F_Log_knows R a0 x1 x2 I = some v) : Cti l g R y_Log_knows w_Log_knows 1 23 [.ref a0, .int x1, .int x2] I v I := by
  unfold Cti
  refine Met.ofW (cc := b_Log_knows) (maxL := 4) (ret := (some .boolean)) (by decide) rfl ?_
  intro p e s m args below meth c s₁ B hml hv
  obtain ⟨rfl, hP, hK⟩ := hv
  have hts := atoms_spec (ws := w_Log_knows) B.pre
  have hall : ∀ w ∈ w_all, w.before _ s = true := fun w hw => hts w (List.mem_cons_of_mem _ hw)
  have hown : s.vm.findClass R_Log = some m.cls := findClass_of_methodNamed B.named
  have hx := B.exec
  have hb := B.bytes
  have hr := B.returns
  have hlk := B.notSynchronized
  have cx : Cx p s m _ meth c g R R_Log b_Log_knows 4 (some .boolean) := ⟨hx, hb, hml, hr, hlk, hown, hall, hT, hK⟩
  have hl := lv_entry ([.ref a0, .int x1, .int x2]) (n := 4) (Nat.le_of_ble_eq_true rfl)
  rw [lg_entry_eq]
  generalize (lg_sl ([.ref a0, .int x1, .int x2]) ++ List.replicate (4 - (lg_sl ([.ref a0, .int x1, .int x2])).length) Slot.unset).toArray = ls at hl ⊢
  have hl : lv_has ls 4 [(0, .ref a0), (1, .int x1), (2, .int x2)] := hl
  have hS : va_S (· ∈ g.L) s.heap s.heap [] := va_S.rf
  unfold F_Log_knows at h
  refine lv_aload_n hx hb d_Log_knows_0 rfl (lv_at hl 0 rfl) ?_
  refine lv_iload_n hx hb d_Log_knows_1 rfl (lv_at hl 1 rfl) ?_
  refine lv_iload_n hx hb d_Log_knows_2 rfl (lv_at hl 2 rfl) ?_
  obtain ⟨v3, e3, h⟩ := ob_el h
  refine gg_Vi (As := [.int x1, .int x2]) (rest := []) (ci := 1) (C := R_Log) (T := F_Log) (N := 7) ⟨hx, hb, hml, hown, hall⟩ (c_Log_find l hT o0 e3) (cwV 2 hall (gV m_186 m_187 m_188 m_38 m_185) rfl rfl rfl (by decide +kernel) ⟨Nat.le_of_ble_eq_true rfl, Nat.le_of_ble_eq_true rfl⟩) hK hP hS o0.1 (wE_1 o0.2) rfl rfl hl.1 rfl (Nat.le_of_ble_eq_true rfl) d_Log_knows_3 (fun H locs hP hS => ?_)
  refine lv_istore_n (lv' := [(3, .int v3), (0, .ref a0), (1, .int x1), (2, .int x2)]) hx hb d_Log_knows_6 rfl hl (Nat.le_of_ble_eq_true rfl) rfl (fun ls hl => ?_)
  refine lv_iload_n hx hb d_Log_knows_7 rfl (lv_at hl 0 rfl) ?_
  refine lv_iconst (v := (-1)) hx hb d_Log_knows_8 (by decide) ?_
  refine lv_icmp_eq hx hb d_Log_knows_9 rfl (fun hc => ?_) (fun hc => ?_)
  · replace h := i_pos hc h
    exact b_Log_knows_24 cx _ _ _ h hP hS (lv_sub hl [] rfl)
  · replace h := i_neg hc h
    refine lv_iload_n hx hb d_Log_knows_12 rfl (lv_at hl 0 rfl) ?_
    refine lv_aload_n hx hb d_Log_knows_13 rfl (lv_at hl 1 rfl) ?_
    refine gg_get (C := R_Log) (T := F_Log) (N := 7) (ci := 1) hx hb hall i_Log hown hK hP o0.1 (wE_1 o0.2) rfl 6 (by decide) (hall _ m_142) (fun _ h9 => h9) rfl d_Log_knows_14 ?_
    refine lv_icmp_ge hx hb d_Log_knows_17 rfl (fun hc => ?_) (fun hc => ?_)
    · replace h := i_pos hc h
      exact b_Log_knows_24 cx _ _ _ h hP hS (lv_sub hl [] rfl)
    · replace h := i_neg hc h
      refine lv_iconst (v := 1) hx hb d_Log_knows_20 (by decide) ?_
      refine lv_goto hx hb d_Log_knows_21 rfl ?_
      obtain rfl := Option.some.inj h
      exact gg_zret hx hb hr hlk rfl hK hP hS d_Log_knows_25
abbrev b_Log_knowsEndOf : ByteArray := prog_3_method_13_code
def y_Log_knowsEndOf : MethodName := ⟨"StampedStore$Log", "knowsEndOf", "(I)Z"⟩
def w_Log_knowsEndOf : List Cond := .code y_Log_knowsEndOf b_Log_knowsEndOf 2 (some .boolean) :: w_all
theorem d_Log_knowsEndOf_0 : decode b_Log_knowsEndOf 0 = .ok (.aload_n 0, 1) := by decide +kernel
theorem d_Log_knowsEndOf_1 : decode b_Log_knowsEndOf 1 = .ok (.iconst 2, 1) := by decide +kernel
theorem d_Log_knowsEndOf_2 : decode b_Log_knowsEndOf 2 = .ok (.iload_n 1, 1) := by decide +kernel
theorem d_Log_knowsEndOf_3 : decode b_Log_knowsEndOf 3 = .ok (.invokevirtual 51, 3) := by decide +kernel
theorem d_Log_knowsEndOf_6 : decode b_Log_knowsEndOf 6 = .ok (.ifCond .ne 12, 3) := by decide +kernel
theorem d_Log_knowsEndOf_9 : decode b_Log_knowsEndOf 9 = .ok (.aload_n 0, 1) := by decide +kernel
theorem d_Log_knowsEndOf_10 : decode b_Log_knowsEndOf 10 = .ok (.iconst 3, 1) := by decide +kernel
theorem d_Log_knowsEndOf_11 : decode b_Log_knowsEndOf 11 = .ok (.iload_n 1, 1) := by decide +kernel
theorem d_Log_knowsEndOf_12 : decode b_Log_knowsEndOf 12 = .ok (.invokevirtual 51, 3) := by decide +kernel
theorem d_Log_knowsEndOf_15 : decode b_Log_knowsEndOf 15 = .ok (.ifCond .eq 7, 3) := by decide +kernel
theorem d_Log_knowsEndOf_18 : decode b_Log_knowsEndOf 18 = .ok (.iconst 1, 1) := by decide +kernel
theorem d_Log_knowsEndOf_19 : decode b_Log_knowsEndOf 19 = .ok (.goto 4, 3) := by decide +kernel
theorem d_Log_knowsEndOf_22 : decode b_Log_knowsEndOf 22 = .ok (.iconst 0, 1) := by decide +kernel
theorem d_Log_knowsEndOf_23 : decode b_Log_knowsEndOf 23 = .ok (.ireturn, 1) := by decide +kernel
def B_Log_knowsEndOf_18 (R : Nat → Nat → Nat) (I : St) : Option Int32 := some (1 : Int32)
set_option maxHeartbeats 4000000 in
set_option maxRecDepth 100000 in
theorem b_Log_knowsEndOf_18 {p : Program} {l : Launch} {e : Env} {s : State} {m : MethodId} {args : Array Value} {below : List Frame} {meth : Method} {c : Code} {g : Sg} {R : Nat → Nat → Nat} {I : St} {v : Int32} (cx : Cx p s m args meth c g R R_Log b_Log_knowsEndOf 2 (some .boolean)) : ∀ (H : Heap) (locs : List Loc) (ls : Array Slot), B_Log_knowsEndOf_18 R I = some v → wW g R I H → va_S (· ∈ g.L) s.heap H locs → lv_has ls 2 [] → W p l e { frames := 2, cells := 0, slots := 0, locals := 46 } s m args below meth c H locs 0 0 (MQ below (Qi g R v I) args s 0 0 (· ∈ g.L)) (F0 m 18 ls []) := by
  have ⟨hx, hb, hml, hr, hlk, hown, hall, hT, hK⟩ := cx
  intro H locs ls h hP hS hl
  unfold B_Log_knowsEndOf_18 at h
  refine lv_iconst (v := 1) hx hb d_Log_knowsEndOf_18 (by decide) ?_
  refine lv_goto hx hb d_Log_knowsEndOf_19 rfl ?_
  obtain rfl := Option.some.inj h
  exact gg_zret hx hb hr hlk rfl hK hP hS d_Log_knowsEndOf_23
def F_Log_knowsEndOf (R : Nat → Nat → Nat) (a0 : Nat) (x1 : Int32) (I : St) : Option Int32 := (ob (F_Log_knows R a0 (2 : Int32) x1 I) (fun v3 => (if v3 = 0 then (ob (F_Log_knows R a0 (3 : Int32) x1 I) (fun v12 => (if v12 = 0 then some (0 : Int32) else B_Log_knowsEndOf_18 R I))) else B_Log_knowsEndOf_18 R I)))
set_option maxHeartbeats 4000000 in
set_option maxRecDepth 100000 in
theorem c_Log_knowsEndOf (l : Launch) {g : Sg} {R : Nat → Nat → Nat} (hT : Ty g R) {a0 : Nat} (o0 : okA g 1 0 a0) {x1 : Int32} {I : St} {v : Int32} (h : F_Log_knowsEndOf R a0 x1 I = some v) : Cti l g R y_Log_knowsEndOf w_Log_knowsEndOf 2 46 [.ref a0, .int x1] I v I := by
  unfold Cti
  refine Met.ofW (cc := b_Log_knowsEndOf) (maxL := 2) (ret := (some .boolean)) (by decide) rfl ?_
  intro p e s m args below meth c s₁ B hml hv
  obtain ⟨rfl, hP, hK⟩ := hv
  have hts := atoms_spec (ws := w_Log_knowsEndOf) B.pre
  have hall : ∀ w ∈ w_all, w.before _ s = true := fun w hw => hts w (List.mem_cons_of_mem _ hw)
  have hown : s.vm.findClass R_Log = some m.cls := findClass_of_methodNamed B.named
  have hx := B.exec
  have hb := B.bytes
  have hr := B.returns
  have hlk := B.notSynchronized
  have cx : Cx p s m _ meth c g R R_Log b_Log_knowsEndOf 2 (some .boolean) := ⟨hx, hb, hml, hr, hlk, hown, hall, hT, hK⟩
  have hl := lv_entry ([.ref a0, .int x1]) (n := 2) (Nat.le_of_ble_eq_true rfl)
  rw [lg_entry_eq]
  generalize (lg_sl ([.ref a0, .int x1]) ++ List.replicate (2 - (lg_sl ([.ref a0, .int x1])).length) Slot.unset).toArray = ls at hl ⊢
  have hl : lv_has ls 2 [(0, .ref a0), (1, .int x1)] := hl
  have hS : va_S (· ∈ g.L) s.heap s.heap [] := va_S.rf
  unfold F_Log_knowsEndOf at h
  refine lv_aload_n hx hb d_Log_knowsEndOf_0 rfl (lv_at hl 0 rfl) ?_
  refine lv_iconst (v := 2) hx hb d_Log_knowsEndOf_1 (by decide) ?_
  refine lv_iload_n hx hb d_Log_knowsEndOf_2 rfl (lv_at hl 1 rfl) ?_
  obtain ⟨v3, e3, h⟩ := ob_el h
  refine gg_Vi (As := [.int (2 : Int32), .int x1]) (rest := []) (ci := 1) (C := R_Log) (T := F_Log) (N := 7) ⟨hx, hb, hml, hown, hall⟩ (c_Log_knows l hT o0 e3) (cwV 2 hall (gV m_191 m_192 m_193 m_38 m_190) rfl rfl rfl (by decide +kernel) ⟨Nat.le_of_ble_eq_true rfl, Nat.le_of_ble_eq_true rfl⟩) hK hP hS o0.1 (wE_1 o0.2) rfl rfl hl.1 rfl (Nat.le_of_ble_eq_true rfl) d_Log_knowsEndOf_3 (fun H locs hP hS => ?_)
  refine lv_if_ne hx hb d_Log_knowsEndOf_6 rfl (fun hc => ?_) (fun hc => ?_)
  · replace h := i_neg hc h
    exact b_Log_knowsEndOf_18 cx _ _ _ h hP hS (lv_sub hl [] rfl)
  · replace h := i_pos hc h
    refine lv_aload_n hx hb d_Log_knowsEndOf_9 rfl (lv_at hl 0 rfl) ?_
    refine lv_iconst (v := 3) hx hb d_Log_knowsEndOf_10 (by decide) ?_
    refine lv_iload_n hx hb d_Log_knowsEndOf_11 rfl (lv_at hl 1 rfl) ?_
    obtain ⟨v12, e12, h⟩ := ob_el h
    refine gg_Vi (As := [.int (3 : Int32), .int x1]) (rest := []) (ci := 1) (C := R_Log) (T := F_Log) (N := 7) ⟨hx, hb, hml, hown, hall⟩ (c_Log_knows l hT o0 e12) (cwV 2 hall (gV m_191 m_192 m_193 m_38 m_190) rfl rfl rfl (by decide +kernel) ⟨Nat.le_of_ble_eq_true rfl, Nat.le_of_ble_eq_true rfl⟩) hK hP hS o0.1 (wE_1 o0.2) rfl rfl hl.1 rfl (Nat.le_of_ble_eq_true rfl) d_Log_knowsEndOf_12 (fun H locs hP hS => ?_)
    refine lv_if_eq hx hb d_Log_knowsEndOf_15 rfl (fun hc => ?_) (fun hc => ?_)
    · replace h := i_pos hc h
      refine lv_iconst (v := 0) hx hb d_Log_knowsEndOf_22 (by decide) ?_
      obtain rfl := Option.some.inj h
      exact gg_zret hx hb hr hlk rfl hK hP hS d_Log_knowsEndOf_23
    · replace h := i_neg hc h
      exact b_Log_knowsEndOf_18 cx _ _ _ h hP hS (lv_sub hl [] rfl)
end
