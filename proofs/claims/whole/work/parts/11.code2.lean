section
abbrev b_Log_isBehind : ByteArray := prog_3_method_6_code
def y_Log_isBehind : MethodName := ⟨"StampedStore$Log", "isBehind", "(LStampedStore$Log;)Z"⟩
def w_Log_isBehind : List Cond := .code y_Log_isBehind b_Log_isBehind 2 (some .boolean) :: w_all
theorem d_Log_isBehind_0 : decode b_Log_isBehind 0 = .ok (.aload_n 0, 1) := by decide +kernel
theorem d_Log_isBehind_1 : decode b_Log_isBehind 1 = .ok (.invokevirtual 35, 3) := by decide +kernel
theorem d_Log_isBehind_4 : decode b_Log_isBehind 4 = .ok (.aload_n 1, 1) := by decide +kernel
theorem d_Log_isBehind_5 : decode b_Log_isBehind 5 = .ok (.invokevirtual 35, 3) := by decide +kernel
theorem d_Log_isBehind_8 : decode b_Log_isBehind 8 = .ok (.if_icmp .eq 20, 3) := by decide +kernel
theorem d_Log_isBehind_11 : decode b_Log_isBehind 11 = .ok (.aload_n 0, 1) := by decide +kernel
theorem d_Log_isBehind_12 : decode b_Log_isBehind 12 = .ok (.invokevirtual 35, 3) := by decide +kernel
theorem d_Log_isBehind_15 : decode b_Log_isBehind 15 = .ok (.aload_n 1, 1) := by decide +kernel
theorem d_Log_isBehind_16 : decode b_Log_isBehind 16 = .ok (.invokevirtual 35, 3) := by decide +kernel
theorem d_Log_isBehind_19 : decode b_Log_isBehind 19 = .ok (.if_icmp .ge 7, 3) := by decide +kernel
theorem d_Log_isBehind_22 : decode b_Log_isBehind 22 = .ok (.iconst 1, 1) := by decide +kernel
theorem d_Log_isBehind_23 : decode b_Log_isBehind 23 = .ok (.goto 4, 3) := by decide +kernel
theorem d_Log_isBehind_26 : decode b_Log_isBehind 26 = .ok (.iconst 0, 1) := by decide +kernel
theorem d_Log_isBehind_27 : decode b_Log_isBehind 27 = .ok (.ireturn, 1) := by decide +kernel
theorem d_Log_isBehind_28 : decode b_Log_isBehind 28 = .ok (.aload_n 0, 1) := by decide +kernel
theorem d_Log_isBehind_29 : decode b_Log_isBehind 29 = .ok (.getfield 27, 3) := by decide +kernel
theorem d_Log_isBehind_32 : decode b_Log_isBehind 32 = .ok (.aload_n 1, 1) := by decide +kernel
theorem d_Log_isBehind_33 : decode b_Log_isBehind 33 = .ok (.getfield 27, 3) := by decide +kernel
theorem d_Log_isBehind_36 : decode b_Log_isBehind 36 = .ok (.if_icmp .ge 7, 3) := by decide +kernel
theorem d_Log_isBehind_39 : decode b_Log_isBehind 39 = .ok (.iconst 1, 1) := by decide +kernel
theorem d_Log_isBehind_40 : decode b_Log_isBehind 40 = .ok (.goto 4, 3) := by decide +kernel
theorem d_Log_isBehind_43 : decode b_Log_isBehind 43 = .ok (.iconst 0, 1) := by decide +kernel
theorem d_Log_isBehind_44 : decode b_Log_isBehind 44 = .ok (.ireturn, 1) := by decide +kernel
def F_Log_isBehind (R : Nat → Nat → Nat) (a0 : Nat) (a1 : Nat) (I : St) : Option Int32 := (ob (F_Log_lastEpoch R a0 I) (fun v1 => (ob (F_Log_lastEpoch R a1 I) (fun v5 => (if v1 = v5 then (if (I a1 5) ≤ (I a0 5) then some (0 : Int32) else some (1 : Int32)) else (ob (F_Log_lastEpoch R a0 I) (fun v12 => (ob (F_Log_lastEpoch R a1 I) (fun v16 => (if v16 ≤ v12 then some (0 : Int32) else some (1 : Int32)))))))))))
set_option maxHeartbeats 4000000 in
set_option maxRecDepth 100000 in
theorem c_Log_isBehind (l : Launch) {g : Sg} {R : Nat → Nat → Nat} (hT : Ty g R) {a0 : Nat} (o0 : okA g 1 0 a0) {a1 : Nat} (o1 : okA g 1 0 a1) {I : St} {v : Int32} (h : F_Log_isBehind R a0 a1 I = some v) : Cti l g R y_Log_isBehind w_Log_isBehind 1 20 [.ref a0, .ref a1] I v I := by
  unfold Cti
  refine Met.ofW (cc := b_Log_isBehind) (maxL := 2) (ret := (some .boolean)) (by decide) rfl ?_
  intro p e s m args below meth c s₁ B hml hv
  obtain ⟨rfl, hP, hK⟩ := hv
  have hts := atoms_spec (ws := w_Log_isBehind) B.pre
  have hall : ∀ w ∈ w_all, w.before _ s = true := fun w hw => hts w (List.mem_cons_of_mem _ hw)
  have hown : s.vm.findClass R_Log = some m.cls := findClass_of_methodNamed B.named
  have hx := B.exec
  have hb := B.bytes
  have hr := B.returns
  have hlk := B.notSynchronized
  have cx : Cx p s m _ meth c g R R_Log b_Log_isBehind 2 (some .boolean) := ⟨hx, hb, hml, hr, hlk, hown, hall, hT, hK⟩
  have hl := lv_entry ([.ref a0, .ref a1]) (n := 2) (Nat.le_of_ble_eq_true rfl)
  rw [lg_entry_eq]
  generalize (lg_sl ([.ref a0, .ref a1]) ++ List.replicate (2 - (lg_sl ([.ref a0, .ref a1])).length) Slot.unset).toArray = ls at hl ⊢
  have hl : lv_has ls 2 [(0, .ref a0), (1, .ref a1)] := hl
  have hS : va_S (· ∈ g.L) s.heap s.heap [] := va_S.rf
  unfold F_Log_isBehind at h
  refine lv_aload_n hx hb d_Log_isBehind_0 rfl (lv_at hl 0 rfl) ?_
  obtain ⟨v1, e1, h⟩ := ob_el h
  refine gg_Vi (As := []) (rest := []) (ci := 1) (C := R_Log) (T := F_Log) (N := 7) ⟨hx, hb, hml, hown, hall⟩ (c_Log_lastEpoch l hT o0 e1) (cwV 0 hall (gV m_35 m_36 m_37 m_38 m_34) rfl rfl rfl (by decide +kernel) ⟨Nat.le_of_ble_eq_true rfl, Nat.le_of_ble_eq_true rfl⟩) hK hP hS o0.1 (wE_1 o0.2) rfl rfl hl.1 rfl (Nat.le_of_ble_eq_true rfl) d_Log_isBehind_1 (fun H locs hP hS => ?_)
  refine lv_aload_n hx hb d_Log_isBehind_4 rfl (lv_at hl 1 rfl) ?_
  obtain ⟨v5, e5, h⟩ := ob_el h
  refine gg_Vi (As := []) (rest := [.int v1]) (ci := 1) (C := R_Log) (T := F_Log) (N := 7) ⟨hx, hb, hml, hown, hall⟩ (c_Log_lastEpoch l hT o1 e5) (cwV 0 hall (gV m_35 m_36 m_37 m_38 m_34) rfl rfl rfl (by decide +kernel) ⟨Nat.le_of_ble_eq_true rfl, Nat.le_of_ble_eq_true rfl⟩) hK hP hS o1.1 (wE_1 o1.2) rfl rfl hl.1 rfl (Nat.le_of_ble_eq_true rfl) d_Log_isBehind_5 (fun H locs hP hS => ?_)
  refine lv_icmp_eq hx hb d_Log_isBehind_8 rfl (fun hc => ?_) (fun hc => ?_)
  · replace h := i_pos hc h
    refine lv_aload_n hx hb d_Log_isBehind_28 rfl (lv_at hl 0 rfl) ?_
    refine gg_get (C := R_Log) (T := F_Log) (N := 7) (ci := 1) hx hb hall i_Log hown hK hP o0.1 (wE_1 o0.2) rfl 5 (by decide) (hall _ m_32) (fun _ h9 => h9) rfl d_Log_isBehind_29 ?_
    refine lv_aload_n hx hb d_Log_isBehind_32 rfl (lv_at hl 1 rfl) ?_
    refine gg_get (C := R_Log) (T := F_Log) (N := 7) (ci := 1) hx hb hall i_Log hown hK hP o1.1 (wE_1 o1.2) rfl 5 (by decide) (hall _ m_32) (fun _ h9 => h9) rfl d_Log_isBehind_33 ?_
    refine lv_icmp_ge hx hb d_Log_isBehind_36 rfl (fun hc => ?_) (fun hc => ?_)
    · replace h := i_pos hc h
      refine lv_iconst (v := 0) hx hb d_Log_isBehind_43 (by decide) ?_
      obtain rfl := Option.some.inj h
      exact gg_zret hx hb hr hlk rfl hK hP hS d_Log_isBehind_44
    · replace h := i_neg hc h
      refine lv_iconst (v := 1) hx hb d_Log_isBehind_39 (by decide) ?_
      refine lv_goto hx hb d_Log_isBehind_40 rfl ?_
      obtain rfl := Option.some.inj h
      exact gg_zret hx hb hr hlk rfl hK hP hS d_Log_isBehind_44
  · replace h := i_neg hc h
    refine lv_aload_n hx hb d_Log_isBehind_11 rfl (lv_at hl 0 rfl) ?_
    obtain ⟨v12, e12, h⟩ := ob_el h
    refine gg_Vi (As := []) (rest := []) (ci := 1) (C := R_Log) (T := F_Log) (N := 7) ⟨hx, hb, hml, hown, hall⟩ (c_Log_lastEpoch l hT o0 e12) (cwV 0 hall (gV m_35 m_36 m_37 m_38 m_34) rfl rfl rfl (by decide +kernel) ⟨Nat.le_of_ble_eq_true rfl, Nat.le_of_ble_eq_true rfl⟩) hK hP hS o0.1 (wE_1 o0.2) rfl rfl hl.1 rfl (Nat.le_of_ble_eq_true rfl) d_Log_isBehind_12 (fun H locs hP hS => ?_)
    refine lv_aload_n hx hb d_Log_isBehind_15 rfl (lv_at hl 1 rfl) ?_
    obtain ⟨v16, e16, h⟩ := ob_el h
    refine gg_Vi (As := []) (rest := [.int v12]) (ci := 1) (C := R_Log) (T := F_Log) (N := 7) ⟨hx, hb, hml, hown, hall⟩ (c_Log_lastEpoch l hT o1 e16) (cwV 0 hall (gV m_35 m_36 m_37 m_38 m_34) rfl rfl rfl (by decide +kernel) ⟨Nat.le_of_ble_eq_true rfl, Nat.le_of_ble_eq_true rfl⟩) hK hP hS o1.1 (wE_1 o1.2) rfl rfl hl.1 rfl (Nat.le_of_ble_eq_true rfl) d_Log_isBehind_16 (fun H locs hP hS => ?_)
    refine lv_icmp_ge hx hb d_Log_isBehind_19 rfl (fun hc => ?_) (fun hc => ?_)
    · replace h := i_pos hc h
      refine lv_iconst (v := 0) hx hb d_Log_isBehind_26 (by decide) ?_
      obtain rfl := Option.some.inj h
      exact gg_zret hx hb hr hlk rfl hK hP hS d_Log_isBehind_27
    · replace h := i_neg hc h
      refine lv_iconst (v := 1) hx hb d_Log_isBehind_22 (by decide) ?_
      refine lv_goto hx hb d_Log_isBehind_23 rfl ?_
      obtain rfl := Option.some.inj h
      exact gg_zret hx hb hr hlk rfl hK hP hS d_Log_isBehind_27
abbrev b_Node_wouldGrant : ByteArray := prog_4_method_7_code
def y_Node_wouldGrant : MethodName := ⟨"StampedStore$Node", "wouldGrant", "(LStampedStore$Node;I)Z"⟩
def w_Node_wouldGrant : List Cond := .code y_Node_wouldGrant b_Node_wouldGrant 4 (some .boolean) :: w_all
theorem d_Node_wouldGrant_0 : decode b_Node_wouldGrant 0 = .ok (.aload_n 0, 1) := by decide +kernel
theorem d_Node_wouldGrant_1 : decode b_Node_wouldGrant 1 = .ok (.getfield 22, 3) := by decide +kernel
theorem d_Node_wouldGrant_4 : decode b_Node_wouldGrant 4 = .ok (.iconst (-1), 1) := by decide +kernel
theorem d_Node_wouldGrant_5 : decode b_Node_wouldGrant 5 = .ok (.if_icmp .eq 25, 3) := by decide +kernel
theorem d_Node_wouldGrant_8 : decode b_Node_wouldGrant 8 = .ok (.aload_n 0, 1) := by decide +kernel
theorem d_Node_wouldGrant_9 : decode b_Node_wouldGrant 9 = .ok (.getfield 22, 3) := by decide +kernel
theorem d_Node_wouldGrant_12 : decode b_Node_wouldGrant 12 = .ok (.aload_n 1, 1) := by decide +kernel
theorem d_Node_wouldGrant_13 : decode b_Node_wouldGrant 13 = .ok (.getfield 26, 3) := by decide +kernel
theorem d_Node_wouldGrant_16 : decode b_Node_wouldGrant 16 = .ok (.if_icmp .eq 14, 3) := by decide +kernel
theorem d_Node_wouldGrant_19 : decode b_Node_wouldGrant 19 = .ok (.aload_n 0, 1) := by decide +kernel
theorem d_Node_wouldGrant_20 : decode b_Node_wouldGrant 20 = .ok (.invokevirtual 63, 3) := by decide +kernel
theorem d_Node_wouldGrant_23 : decode b_Node_wouldGrant 23 = .ok (.aload_n 0, 1) := by decide +kernel
theorem d_Node_wouldGrant_24 : decode b_Node_wouldGrant 24 = .ok (.getfield 66, 3) := by decide +kernel
theorem d_Node_wouldGrant_27 : decode b_Node_wouldGrant 27 = .ok (.if_icmp .le 7, 3) := by decide +kernel
theorem d_Node_wouldGrant_30 : decode b_Node_wouldGrant 30 = .ok (.iconst 1, 1) := by decide +kernel
theorem d_Node_wouldGrant_31 : decode b_Node_wouldGrant 31 = .ok (.goto 4, 3) := by decide +kernel
theorem d_Node_wouldGrant_34 : decode b_Node_wouldGrant 34 = .ok (.iconst 0, 1) := by decide +kernel
theorem d_Node_wouldGrant_35 : decode b_Node_wouldGrant 35 = .ok (.istore_n 3, 1) := by decide +kernel
theorem d_Node_wouldGrant_36 : decode b_Node_wouldGrant 36 = .ok (.aload_n 0, 1) := by decide +kernel
theorem d_Node_wouldGrant_37 : decode b_Node_wouldGrant 37 = .ok (.getfield 54, 3) := by decide +kernel
theorem d_Node_wouldGrant_40 : decode b_Node_wouldGrant 40 = .ok (.iload_n 2, 1) := by decide +kernel
theorem d_Node_wouldGrant_41 : decode b_Node_wouldGrant 41 = .ok (.if_icmp .ge 25, 3) := by decide +kernel
theorem d_Node_wouldGrant_44 : decode b_Node_wouldGrant 44 = .ok (.iload_n 3, 1) := by decide +kernel
theorem d_Node_wouldGrant_45 : decode b_Node_wouldGrant 45 = .ok (.ifCond .eq 21, 3) := by decide +kernel
theorem d_Node_wouldGrant_48 : decode b_Node_wouldGrant 48 = .ok (.aload_n 1, 1) := by decide +kernel
theorem d_Node_wouldGrant_49 : decode b_Node_wouldGrant 49 = .ok (.getfield 12, 3) := by decide +kernel
theorem d_Node_wouldGrant_52 : decode b_Node_wouldGrant 52 = .ok (.aload_n 0, 1) := by decide +kernel
theorem d_Node_wouldGrant_53 : decode b_Node_wouldGrant 53 = .ok (.getfield 12, 3) := by decide +kernel
theorem d_Node_wouldGrant_56 : decode b_Node_wouldGrant 56 = .ok (.invokevirtual 69, 3) := by decide +kernel
theorem d_Node_wouldGrant_59 : decode b_Node_wouldGrant 59 = .ok (.ifCond .ne 7, 3) := by decide +kernel
theorem d_Node_wouldGrant_62 : decode b_Node_wouldGrant 62 = .ok (.iconst 1, 1) := by decide +kernel
theorem d_Node_wouldGrant_63 : decode b_Node_wouldGrant 63 = .ok (.goto 4, 3) := by decide +kernel
theorem d_Node_wouldGrant_66 : decode b_Node_wouldGrant 66 = .ok (.iconst 0, 1) := by decide +kernel
theorem d_Node_wouldGrant_67 : decode b_Node_wouldGrant 67 = .ok (.ireturn, 1) := by decide +kernel
def B_Node_wouldGrant_66 (R : Nat → Nat → Nat) (I : St) : Option Int32 := some (0 : Int32)
set_option maxHeartbeats 4000000 in
set_option maxRecDepth 100000 in
theorem b_Node_wouldGrant_66 {p : Program} {l : Launch} {e : Env} {s : State} {m : MethodId} {args : Array Value} {below : List Frame} {meth : Method} {c : Code} {g : Sg} {R : Nat → Nat → Nat} {I : St} {v : Int32} (cx : Cx p s m args meth c g R R_Node b_Node_wouldGrant 4 (some .boolean)) : ∀ (H : Heap) (locs : List Loc) (ls : Array Slot), B_Node_wouldGrant_66 R I = some v → wW g R I H → va_S (· ∈ g.L) s.heap H locs → lv_has ls 4 [] → W p l e { frames := 2, cells := 0, slots := 0, locals := 41 } s m args below meth c H locs 0 0 (MQ below (Qi g R v I) args s 0 0 (· ∈ g.L)) (F0 m 66 ls []) := by
  have ⟨hx, hb, hml, hr, hlk, hown, hall, hT, hK⟩ := cx
  intro H locs ls h hP hS hl
  unfold B_Node_wouldGrant_66 at h
  refine lv_iconst (v := 0) hx hb d_Node_wouldGrant_66 (by decide) ?_
  obtain rfl := Option.some.inj h
  exact gg_zret hx hb hr hlk rfl hK hP hS d_Node_wouldGrant_67
def B_Node_wouldGrant_35 (R : Nat → Nat → Nat) (I : St) (a0 : Nat) (a1 : Nat) (x2 : Int32) (t0 : Int32) : Option Int32 := (if x2 ≤ (I a0 6) then B_Node_wouldGrant_66 R I else (if t0 = 0 then B_Node_wouldGrant_66 R I else (ob (F_Log_isBehind R (R a1 2) (R a0 2) I) (fun v56 => (if v56 = 0 then some (1 : Int32) else B_Node_wouldGrant_66 R I)))))
set_option maxHeartbeats 4000000 in
set_option maxRecDepth 100000 in
theorem b_Node_wouldGrant_35 {p : Program} {l : Launch} {e : Env} {s : State} {m : MethodId} {args : Array Value} {below : List Frame} {meth : Method} {c : Code} {g : Sg} {R : Nat → Nat → Nat} {I : St} {v : Int32} (cx : Cx p s m args meth c g R R_Node b_Node_wouldGrant 4 (some .boolean)) : ∀ (a0 : Nat) (a1 : Nat) (x2 : Int32) (t0 : Int32) (H : Heap) (locs : List Loc) (ls : Array Slot), okA g 2 0 a0 → okA g 2 0 a1 → B_Node_wouldGrant_35 R I a0 a1 x2 t0 = some v → wW g R I H → va_S (· ∈ g.L) s.heap H locs → lv_has ls 4 [(0, .ref a0), (1, .ref a1), (2, .int x2)] → W p l e { frames := 2, cells := 0, slots := 0, locals := 41 } s m args below meth c H locs 0 0 (MQ below (Qi g R v I) args s 0 0 (· ∈ g.L)) (F0 m 35 ls [.int t0]) := by
  have ⟨hx, hb, hml, hr, hlk, hown, hall, hT, hK⟩ := cx
  intro a0 a1 x2 t0 H locs ls o0 o1 h hP hS hl
  unfold B_Node_wouldGrant_35 at h
  refine lv_istore_n (lv' := [(3, .int t0), (0, .ref a0), (1, .ref a1), (2, .int x2)]) hx hb d_Node_wouldGrant_35 rfl hl (Nat.le_of_ble_eq_true rfl) rfl (fun ls hl => ?_)
  refine lv_aload_n hx hb d_Node_wouldGrant_36 rfl (lv_at hl 1 rfl) ?_
  refine gg_get (C := R_Node) (T := F_Node) (N := 10) (ci := 2) hx hb hall i_Node hown hK hP o0.1 (wE_2 o0.2) rfl 6 (by decide) (hall _ m_17) (fun _ h9 => h9) rfl d_Node_wouldGrant_37 ?_
  refine lv_iload_n hx hb d_Node_wouldGrant_40 rfl (lv_at hl 3 rfl) ?_
  refine lv_icmp_ge hx hb d_Node_wouldGrant_41 rfl (fun hc => ?_) (fun hc => ?_)
  · replace h := i_pos hc h
    exact b_Node_wouldGrant_66 cx _ _ _ h hP hS (lv_sub hl [] rfl)
  · replace h := i_neg hc h
    refine lv_iload_n hx hb d_Node_wouldGrant_44 rfl (lv_at hl 0 rfl) ?_
    refine lv_if_eq hx hb d_Node_wouldGrant_45 rfl (fun hc => ?_) (fun hc => ?_)
    · replace h := i_pos hc h
      exact b_Node_wouldGrant_66 cx _ _ _ h hP hS (lv_sub hl [] rfl)
    · replace h := i_neg hc h
      refine lv_aload_n hx hb d_Node_wouldGrant_48 rfl (lv_at hl 2 rfl) ?_
      refine gg_get (C := R_Node) (T := F_Node) (N := 10) (ci := 2) hx hb hall i_Node hown hK hP o1.1 (wE_2 o1.2) rfl 2 (by decide) (hall _ m_40) (fun _ h9 => h9) rfl d_Node_wouldGrant_49 ?_
      have o_49 : okA g 1 0 (R a1 2) := ty_Node_2 hT o1
      refine lv_aload_n hx hb d_Node_wouldGrant_52 rfl (lv_at hl 1 rfl) ?_
      refine gg_get (C := R_Node) (T := F_Node) (N := 10) (ci := 2) hx hb hall i_Node hown hK hP o0.1 (wE_2 o0.2) rfl 2 (by decide) (hall _ m_40) (fun _ h9 => h9) rfl d_Node_wouldGrant_53 ?_
      have o_53 : okA g 1 0 (R a0 2) := ty_Node_2 hT o0
      obtain ⟨v56, e56, h⟩ := ob_el h
      refine gg_Vi (As := [.ref (R a0 2)]) (rest := []) (ci := 1) (C := R_Log) (T := F_Log) (N := 7) ⟨hx, hb, hml, hown, hall⟩ (c_Log_isBehind l hT o_49 o_53 e56) (cwV 1 hall (gV m_41 m_42 m_43 m_38 m_39) rfl rfl rfl (by decide +kernel) ⟨Nat.le_of_ble_eq_true rfl, Nat.le_of_ble_eq_true rfl⟩) hK hP hS o_49.1 (wE_1 o_49.2) rfl rfl hl.1 rfl (Nat.le_of_ble_eq_true rfl) d_Node_wouldGrant_56 (fun H locs hP hS => ?_)
      refine lv_if_ne hx hb d_Node_wouldGrant_59 rfl (fun hc => ?_) (fun hc => ?_)
      · replace h := i_neg hc h
        exact b_Node_wouldGrant_66 cx _ _ _ h hP hS (lv_sub hl [] rfl)
      · replace h := i_pos hc h
        refine lv_iconst (v := 1) hx hb d_Node_wouldGrant_62 (by decide) ?_
        refine lv_goto hx hb d_Node_wouldGrant_63 rfl ?_
        obtain rfl := Option.some.inj h
        exact gg_zret hx hb hr hlk rfl hK hP hS d_Node_wouldGrant_67
def B_Node_wouldGrant_30 (R : Nat → Nat → Nat) (I : St) (a0 : Nat) (a1 : Nat) (x2 : Int32) : Option Int32 := B_Node_wouldGrant_35 R I a0 a1 x2 (1 : Int32)
set_option maxHeartbeats 4000000 in
set_option maxRecDepth 100000 in
theorem b_Node_wouldGrant_30 {p : Program} {l : Launch} {e : Env} {s : State} {m : MethodId} {args : Array Value} {below : List Frame} {meth : Method} {c : Code} {g : Sg} {R : Nat → Nat → Nat} {I : St} {v : Int32} (cx : Cx p s m args meth c g R R_Node b_Node_wouldGrant 4 (some .boolean)) : ∀ (a0 : Nat) (a1 : Nat) (x2 : Int32) (H : Heap) (locs : List Loc) (ls : Array Slot), okA g 2 0 a0 → okA g 2 0 a1 → B_Node_wouldGrant_30 R I a0 a1 x2 = some v → wW g R I H → va_S (· ∈ g.L) s.heap H locs → lv_has ls 4 [(0, .ref a0), (1, .ref a1), (2, .int x2)] → W p l e { frames := 2, cells := 0, slots := 0, locals := 41 } s m args below meth c H locs 0 0 (MQ below (Qi g R v I) args s 0 0 (· ∈ g.L)) (F0 m 30 ls []) := by
  have ⟨hx, hb, hml, hr, hlk, hown, hall, hT, hK⟩ := cx
  intro a0 a1 x2 H locs ls o0 o1 h hP hS hl
  unfold B_Node_wouldGrant_30 at h
  refine lv_iconst (v := 1) hx hb d_Node_wouldGrant_30 (by decide) ?_
  refine lv_goto hx hb d_Node_wouldGrant_31 rfl ?_
  exact b_Node_wouldGrant_35 cx _ _ _ _ _ _ _ o0 o1 h hP hS (lv_sub hl [0, 1, 2] rfl)
def F_Node_wouldGrant (R : Nat → Nat → Nat) (a0 : Nat) (a1 : Nat) (x2 : Int32) (I : St) : Option Int32 := (if (I a0 8) = (-1 : Int32) then B_Node_wouldGrant_30 R I a0 a1 x2 else (if (I a0 8) = (I a1 0) then B_Node_wouldGrant_30 R I a0 a1 x2 else (ob (F_Node_earliest R a0 I) (fun v20 => (if v20 ≤ (I a0 9) then B_Node_wouldGrant_35 R I a0 a1 x2 (0 : Int32) else B_Node_wouldGrant_30 R I a0 a1 x2)))))
set_option maxHeartbeats 4000000 in
set_option maxRecDepth 100000 in
theorem c_Node_wouldGrant (l : Launch) {g : Sg} {R : Nat → Nat → Nat} (hT : Ty g R) {a0 : Nat} (o0 : okA g 2 0 a0) {a1 : Nat} (o1 : okA g 2 0 a1) {x2 : Int32} {I : St} {v : Int32} (h : F_Node_wouldGrant R a0 a1 x2 I = some v) : Cti l g R y_Node_wouldGrant w_Node_wouldGrant 2 41 [.ref a0, .ref a1, .int x2] I v I := by
  unfold Cti
  refine Met.ofW (cc := b_Node_wouldGrant) (maxL := 4) (ret := (some .boolean)) (by decide) rfl ?_
  intro p e s m args below meth c s₁ B hml hv
  obtain ⟨rfl, hP, hK⟩ := hv
  have hts := atoms_spec (ws := w_Node_wouldGrant) B.pre
  have hall : ∀ w ∈ w_all, w.before _ s = true := fun w hw => hts w (List.mem_cons_of_mem _ hw)
  have hown : s.vm.findClass R_Node = some m.cls := findClass_of_methodNamed B.named
  have hx := B.exec
  have hb := B.bytes
  have hr := B.returns
  have hlk := B.notSynchronized
  have cx : Cx p s m _ meth c g R R_Node b_Node_wouldGrant 4 (some .boolean) := ⟨hx, hb, hml, hr, hlk, hown, hall, hT, hK⟩
  have hl := lv_entry ([.ref a0, .ref a1, .int x2]) (n := 4) (Nat.le_of_ble_eq_true rfl)
  rw [lg_entry_eq]
  generalize (lg_sl ([.ref a0, .ref a1, .int x2]) ++ List.replicate (4 - (lg_sl ([.ref a0, .ref a1, .int x2])).length) Slot.unset).toArray = ls at hl ⊢
  have hl : lv_has ls 4 [(0, .ref a0), (1, .ref a1), (2, .int x2)] := hl
  have hS : va_S (· ∈ g.L) s.heap s.heap [] := va_S.rf
  unfold F_Node_wouldGrant at h
  refine lv_aload_n hx hb d_Node_wouldGrant_0 rfl (lv_at hl 0 rfl) ?_
  refine gg_get (C := R_Node) (T := F_Node) (N := 10) (ci := 2) hx hb hall i_Node hown hK hP o0.1 (wE_2 o0.2) rfl 8 (by decide) (hall _ m_44) (fun _ h9 => h9) rfl d_Node_wouldGrant_1 ?_
  refine lv_iconst (v := (-1)) hx hb d_Node_wouldGrant_4 (by decide) ?_
  refine lv_icmp_eq hx hb d_Node_wouldGrant_5 rfl (fun hc => ?_) (fun hc => ?_)
  · replace h := i_pos hc h
    exact b_Node_wouldGrant_30 cx _ _ _ _ _ _ o0 o1 h hP hS (lv_sub hl [0, 1, 2] rfl)
  · replace h := i_neg hc h
    refine lv_aload_n hx hb d_Node_wouldGrant_8 rfl (lv_at hl 0 rfl) ?_
    refine gg_get (C := R_Node) (T := F_Node) (N := 10) (ci := 2) hx hb hall i_Node hown hK hP o0.1 (wE_2 o0.2) rfl 8 (by decide) (hall _ m_44) (fun _ h9 => h9) rfl d_Node_wouldGrant_9 ?_
    refine lv_aload_n hx hb d_Node_wouldGrant_12 rfl (lv_at hl 1 rfl) ?_
    refine gg_get (C := R_Node) (T := F_Node) (N := 10) (ci := 2) hx hb hall i_Node hown hK hP o1.1 (wE_2 o1.2) rfl 0 (by decide) (hall _ m_16) (fun _ h9 => h9) rfl d_Node_wouldGrant_13 ?_
    refine lv_icmp_eq hx hb d_Node_wouldGrant_16 rfl (fun hc => ?_) (fun hc => ?_)
    · replace h := i_pos hc h
      exact b_Node_wouldGrant_30 cx _ _ _ _ _ _ o0 o1 h hP hS (lv_sub hl [0, 1, 2] rfl)
    · replace h := i_neg hc h
      refine lv_aload_n hx hb d_Node_wouldGrant_19 rfl (lv_at hl 0 rfl) ?_
      obtain ⟨v20, e20, h⟩ := ob_el h
      refine gg_Vi (As := []) (rest := []) (ci := 2) (C := R_Node) (T := F_Node) (N := 10) ⟨hx, hb, hml, hown, hall⟩ (c_Node_earliest l hT o0 e20) (cwV 0 hall (gV m_45 m_46 m_47 m_48 m_31) rfl rfl rfl (by decide +kernel) ⟨Nat.le_of_ble_eq_true rfl, Nat.le_of_ble_eq_true rfl⟩) hK hP hS o0.1 (wE_2 o0.2) rfl rfl hl.1 rfl (Nat.le_of_ble_eq_true rfl) d_Node_wouldGrant_20 (fun H locs hP hS => ?_)
      refine lv_aload_n hx hb d_Node_wouldGrant_23 rfl (lv_at hl 0 rfl) ?_
      refine gg_get (C := R_Node) (T := F_Node) (N := 10) (ci := 2) hx hb hall i_Node hown hK hP o0.1 (wE_2 o0.2) rfl 9 (by decide) (hall _ m_49) (fun _ h9 => h9) rfl d_Node_wouldGrant_24 ?_
      refine lv_icmp_le hx hb d_Node_wouldGrant_27 rfl (fun hc => ?_) (fun hc => ?_)
      · replace h := i_pos hc h
        refine lv_iconst (v := 0) hx hb d_Node_wouldGrant_34 (by decide) ?_
        exact b_Node_wouldGrant_35 cx _ _ _ _ _ _ _ o0 o1 h hP hS (lv_sub hl [0, 1, 2] rfl)
      · replace h := i_neg hc h
        exact b_Node_wouldGrant_30 cx _ _ _ _ _ _ o0 o1 h hP hS (lv_sub hl [0, 1, 2] rfl)
abbrev b_Node_takeEpoch : ByteArray := prog_4_method_6_code
def y_Node_takeEpoch : MethodName := ⟨"StampedStore$Node", "takeEpoch", "(I)V"⟩
def w_Node_takeEpoch : List Cond := .code y_Node_takeEpoch b_Node_takeEpoch 2 none :: w_all
theorem d_Node_takeEpoch_0 : decode b_Node_takeEpoch 0 = .ok (.iload_n 1, 1) := by decide +kernel
theorem d_Node_takeEpoch_1 : decode b_Node_takeEpoch 1 = .ok (.aload_n 0, 1) := by decide +kernel
theorem d_Node_takeEpoch_2 : decode b_Node_takeEpoch 2 = .ok (.getfield 54, 3) := by decide +kernel
theorem d_Node_takeEpoch_5 : decode b_Node_takeEpoch 5 = .ok (.if_icmp .le 13, 3) := by decide +kernel
theorem d_Node_takeEpoch_8 : decode b_Node_takeEpoch 8 = .ok (.aload_n 0, 1) := by decide +kernel
theorem d_Node_takeEpoch_9 : decode b_Node_takeEpoch 9 = .ok (.iload_n 1, 1) := by decide +kernel
theorem d_Node_takeEpoch_10 : decode b_Node_takeEpoch 10 = .ok (.putfield 54, 3) := by decide +kernel
theorem d_Node_takeEpoch_13 : decode b_Node_takeEpoch 13 = .ok (.aload_n 0, 1) := by decide +kernel
theorem d_Node_takeEpoch_14 : decode b_Node_takeEpoch 14 = .ok (.iconst 0, 1) := by decide +kernel
theorem d_Node_takeEpoch_15 : decode b_Node_takeEpoch 15 = .ok (.putfield 44, 3) := by decide +kernel
theorem d_Node_takeEpoch_18 : decode b_Node_takeEpoch 18 = .ok (.return_, 1) := by decide +kernel
def F_Node_takeEpoch (R : Nat → Nat → Nat) (a0 : Nat) (x1 : Int32) (I : St) : Option St := (if x1 ≤ (I a0 6) then some I else (ap (up2 I a0 6 x1) (fun I10 => (ap (up2 I10 a0 4 (0 : Int32)) (fun I15 => some I15)))))
set_option maxHeartbeats 4000000 in
set_option maxRecDepth 100000 in
theorem c_Node_takeEpoch (l : Launch) {g : Sg} {R : Nat → Nat → Nat} (hT : Ty g R) {a0 : Nat} (o0 : okA g 2 0 a0) {x1 : Int32} {I : St} {J : St} (h : F_Node_takeEpoch R a0 x1 I = some J) : Ctv l g R y_Node_takeEpoch w_Node_takeEpoch 0 0 [.ref a0, .int x1] I J := by
  unfold Ctv
  refine Met.ofW (cc := b_Node_takeEpoch) (maxL := 2) (ret := none) (by decide) rfl ?_
  intro p e s m args below meth c s₁ B hml hv
  obtain ⟨rfl, hP, hK⟩ := hv
  have hts := atoms_spec (ws := w_Node_takeEpoch) B.pre
  have hall : ∀ w ∈ w_all, w.before _ s = true := fun w hw => hts w (List.mem_cons_of_mem _ hw)
  have hown : s.vm.findClass R_Node = some m.cls := findClass_of_methodNamed B.named
  have hx := B.exec
  have hb := B.bytes
  have hr := B.returns
  have hlk := B.notSynchronized
  have cx : Cx p s m _ meth c g R R_Node b_Node_takeEpoch 2 none := ⟨hx, hb, hml, hr, hlk, hown, hall, hT, hK⟩
  have hl := lv_entry ([.ref a0, .int x1]) (n := 2) (Nat.le_of_ble_eq_true rfl)
  rw [lg_entry_eq]
  generalize (lg_sl ([.ref a0, .int x1]) ++ List.replicate (2 - (lg_sl ([.ref a0, .int x1])).length) Slot.unset).toArray = ls at hl ⊢
  have hl : lv_has ls 2 [(0, .ref a0), (1, .int x1)] := hl
  have hS : va_S (· ∈ g.L) s.heap s.heap [] := va_S.rf
  unfold F_Node_takeEpoch at h
  refine lv_iload_n hx hb d_Node_takeEpoch_0 rfl (lv_at hl 1 rfl) ?_
  refine lv_aload_n hx hb d_Node_takeEpoch_1 rfl (lv_at hl 0 rfl) ?_
  refine gg_get (C := R_Node) (T := F_Node) (N := 10) (ci := 2) hx hb hall i_Node hown hK hP o0.1 (wE_2 o0.2) rfl 6 (by decide) (hall _ m_17) (fun _ h9 => h9) rfl d_Node_takeEpoch_2 ?_
  refine lv_icmp_le hx hb d_Node_takeEpoch_5 rfl (fun hc => ?_) (fun hc => ?_)
  · replace h := i_pos hc h
    obtain rfl := Option.some.inj h
    exact gg_vret hx hb hr hlk hK hP hS d_Node_takeEpoch_18
  · replace h := i_neg hc h
    refine lv_aload_n hx hb d_Node_takeEpoch_8 rfl (lv_at hl 0 rfl) ?_
    refine lv_iload_n hx hb d_Node_takeEpoch_9 rfl (lv_at hl 1 rfl) ?_
    refine gg_put (C := R_Node) (T := F_Node) (N := 10) (ci := 2) (ty := .int) hx hb hall i_Node t_Node t_Node_ok n_Node hown hT.1 hK hP hS o0.1 (wE_2 o0.2) rfl 6 (by decide) (hall _ m_17) (fun _ h9 => h9) rfl (by decide +kernel) rfl rfl (Nat.le_of_ble_eq_true rfl) (ws_Node_6 o0.2) d_Node_takeEpoch_10 (fun I10 H locs e10 hP hS => ?_)
    replace h := ap_el e10 h
    refine lv_aload_n hx hb d_Node_takeEpoch_13 rfl (lv_at hl 0 rfl) ?_
    refine lv_iconst (v := 0) hx hb d_Node_takeEpoch_14 (by decide) ?_
    refine gg_put (C := R_Node) (T := F_Node) (N := 10) (ci := 2) (ty := .boolean) hx hb hall i_Node t_Node t_Node_ok n_Node hown hT.1 hK hP hS o0.1 (wE_2 o0.2) rfl 4 (by decide) (hall _ m_51) (fun _ h9 => h9) rfl (by decide +kernel) rfl rfl (Nat.le_of_ble_eq_true rfl) (ws_Node_4 o0.2) d_Node_takeEpoch_15 (fun I15 H locs e15 hP hS => ?_)
    replace h := ap_el e15 h
    obtain rfl := Option.some.inj h
    exact gg_vret hx hb hr hlk hK hP hS d_Node_takeEpoch_18
abbrev b_Node_latest : ByteArray := prog_4_method_3_code
def y_Node_latest : MethodName := ⟨"StampedStore$Node", "latest", "()I"⟩
def w_Node_latest : List Cond := .code y_Node_latest b_Node_latest 1 (some .int) :: w_all
theorem d_Node_latest_0 : decode b_Node_latest 0 = .ok (.aload_n 0, 1) := by decide +kernel
theorem d_Node_latest_1 : decode b_Node_latest 1 = .ok (.getfield 29, 3) := by decide +kernel
theorem d_Node_latest_4 : decode b_Node_latest 4 = .ok (.getfield 33, 3) := by decide +kernel
theorem d_Node_latest_7 : decode b_Node_latest 7 = .ok (.aload_n 0, 1) := by decide +kernel
theorem d_Node_latest_8 : decode b_Node_latest 8 = .ok (.getfield 38, 3) := by decide +kernel
theorem d_Node_latest_11 : decode b_Node_latest 11 = .ok (.iadd, 1) := by decide +kernel
theorem d_Node_latest_12 : decode b_Node_latest 12 = .ok (.aload_n 0, 1) := by decide +kernel
theorem d_Node_latest_13 : decode b_Node_latest 13 = .ok (.getfield 29, 3) := by decide +kernel
theorem d_Node_latest_16 : decode b_Node_latest 16 = .ok (.getfield 41, 3) := by decide +kernel
theorem d_Node_latest_19 : decode b_Node_latest 19 = .ok (.iadd, 1) := by decide +kernel
theorem d_Node_latest_20 : decode b_Node_latest 20 = .ok (.ireturn, 1) := by decide +kernel
def F_Node_latest (R : Nat → Nat → Nat) (a0 : Nat) (I : St) : Option Int32 := some (((I (R a0 1) 1) + (I a0 5)) + (I (R a0 1) 0))
set_option maxHeartbeats 4000000 in
set_option maxRecDepth 100000 in
theorem c_Node_latest (l : Launch) {g : Sg} {R : Nat → Nat → Nat} (hT : Ty g R) {a0 : Nat} (o0 : okA g 2 0 a0) {I : St} {v : Int32} (h : F_Node_latest R a0 I = some v) : Cti l g R y_Node_latest w_Node_latest 0 0 [.ref a0] I v I := by
  unfold Cti
  refine Met.ofW (cc := b_Node_latest) (maxL := 1) (ret := (some .int)) (by decide) rfl ?_
  intro p e s m args below meth c s₁ B hml hv
  obtain ⟨rfl, hP, hK⟩ := hv
  have hts := atoms_spec (ws := w_Node_latest) B.pre
  have hall : ∀ w ∈ w_all, w.before _ s = true := fun w hw => hts w (List.mem_cons_of_mem _ hw)
  have hown : s.vm.findClass R_Node = some m.cls := findClass_of_methodNamed B.named
  have hx := B.exec
  have hb := B.bytes
  have hr := B.returns
  have hlk := B.notSynchronized
  have cx : Cx p s m _ meth c g R R_Node b_Node_latest 1 (some .int) := ⟨hx, hb, hml, hr, hlk, hown, hall, hT, hK⟩
  have hl := lv_entry ([.ref a0]) (n := 1) (Nat.le_of_ble_eq_true rfl)
  rw [lg_entry_eq]
  generalize (lg_sl ([.ref a0]) ++ List.replicate (1 - (lg_sl ([.ref a0])).length) Slot.unset).toArray = ls at hl ⊢
  have hl : lv_has ls 1 [(0, .ref a0)] := hl
  have hS : va_S (· ∈ g.L) s.heap s.heap [] := va_S.rf
  unfold F_Node_latest at h
  refine lv_aload_n hx hb d_Node_latest_0 rfl (lv_at hl 0 rfl) ?_
  refine gg_get (C := R_Node) (T := F_Node) (N := 10) (ci := 2) hx hb hall i_Node hown hK hP o0.1 (wE_2 o0.2) rfl 1 (by decide) (hall _ m_27) (fun _ h9 => h9) rfl d_Node_latest_1 ?_
  have o_1 : okA g 0 0 (R a0 1) := ty_Node_1 hT o0
  refine gg_get (C := R_Clock) (T := F_Clock) (N := 2) (ci := 0) hx hb hall i_Clock hown hK hP o_1.1 (wE_0 o_1.2) rfl 1 (by decide) (hall _ m_28) (fun _ h9 => h9) rfl d_Node_latest_4 ?_
  refine lv_aload_n hx hb d_Node_latest_7 rfl (lv_at hl 0 rfl) ?_
  refine gg_get (C := R_Node) (T := F_Node) (N := 10) (ci := 2) hx hb hall i_Node hown hK hP o0.1 (wE_2 o0.2) rfl 5 (by decide) (hall _ m_29) (fun _ h9 => h9) rfl d_Node_latest_8 ?_
  refine lv_iadd hx hb d_Node_latest_11 ?_
  refine lv_aload_n hx hb d_Node_latest_12 rfl (lv_at hl 0 rfl) ?_
  refine gg_get (C := R_Node) (T := F_Node) (N := 10) (ci := 2) hx hb hall i_Node hown hK hP o0.1 (wE_2 o0.2) rfl 1 (by decide) (hall _ m_27) (fun _ h9 => h9) rfl d_Node_latest_13 ?_
  have o_13 : okA g 0 0 (R a0 1) := ty_Node_1 hT o0
  refine gg_get (C := R_Clock) (T := F_Clock) (N := 2) (ci := 0) hx hb hall i_Clock hown hK hP o_13.1 (wE_0 o_13.2) rfl 0 (by decide) (hall _ m_30) (fun _ h9 => h9) rfl d_Node_latest_16 ?_
  refine lv_iadd hx hb d_Node_latest_19 ?_
  obtain rfl := Option.some.inj h
  exact gg_iret hx hb hr hlk hK hP hS d_Node_latest_20
abbrev b_Node_promiseTo : ByteArray := prog_4_method_8_code
def y_Node_promiseTo : MethodName := ⟨"StampedStore$Node", "promiseTo", "(LStampedStore$Node;)V"⟩
def w_Node_promiseTo : List Cond := .code y_Node_promiseTo b_Node_promiseTo 2 none :: w_all
theorem d_Node_promiseTo_0 : decode b_Node_promiseTo 0 = .ok (.aload_n 0, 1) := by decide +kernel
theorem d_Node_promiseTo_1 : decode b_Node_promiseTo 1 = .ok (.aload_n 1, 1) := by decide +kernel
theorem d_Node_promiseTo_2 : decode b_Node_promiseTo 2 = .ok (.getfield 26, 3) := by decide +kernel
theorem d_Node_promiseTo_5 : decode b_Node_promiseTo 5 = .ok (.putfield 22, 3) := by decide +kernel
theorem d_Node_promiseTo_8 : decode b_Node_promiseTo 8 = .ok (.aload_n 0, 1) := by decide +kernel
theorem d_Node_promiseTo_9 : decode b_Node_promiseTo 9 = .ok (.aload_n 0, 1) := by decide +kernel
theorem d_Node_promiseTo_10 : decode b_Node_promiseTo 10 = .ok (.getfield 66, 3) := by decide +kernel
theorem d_Node_promiseTo_13 : decode b_Node_promiseTo 13 = .ok (.aload_n 0, 1) := by decide +kernel
theorem d_Node_promiseTo_14 : decode b_Node_promiseTo 14 = .ok (.invokevirtual 47, 3) := by decide +kernel
theorem d_Node_promiseTo_17 : decode b_Node_promiseTo 17 = .ok (.bipush 40, 2) := by decide +kernel
theorem d_Node_promiseTo_19 : decode b_Node_promiseTo 19 = .ok (.iadd, 1) := by decide +kernel
theorem d_Node_promiseTo_20 : decode b_Node_promiseTo 20 = .ok (.invokestatic 73, 3) := by decide +kernel
theorem d_Node_promiseTo_23 : decode b_Node_promiseTo 23 = .ok (.putfield 66, 3) := by decide +kernel
theorem d_Node_promiseTo_26 : decode b_Node_promiseTo 26 = .ok (.return_, 1) := by decide +kernel
def F_Node_promiseTo (R : Nat → Nat → Nat) (a0 : Nat) (a1 : Nat) (I : St) : Option St := (ap (up2 I a0 8 (I a1 0)) (fun I5 => (ob (F_Node_latest R a0 I5) (fun v14 => (ap (up2 I5 a0 9 (imax (I5 a0 9) (v14 + (40 : Int32)))) (fun I23 => some I23))))))
set_option maxHeartbeats 4000000 in
set_option maxRecDepth 100000 in
theorem c_Node_promiseTo (l : Launch) {g : Sg} {R : Nat → Nat → Nat} (hT : Ty g R) {a0 : Nat} (o0 : okA g 2 0 a0) {a1 : Nat} (o1 : okA g 2 0 a1) {I : St} {J : St} (h : F_Node_promiseTo R a0 a1 I = some J) : Ctv l g R y_Node_promiseTo w_Node_promiseTo 1 22 [.ref a0, .ref a1] I J := by
  unfold Ctv
  refine Met.ofW (cc := b_Node_promiseTo) (maxL := 2) (ret := none) (by decide) rfl ?_
  intro p e s m args below meth c s₁ B hml hv
  obtain ⟨rfl, hP, hK⟩ := hv
  have hts := atoms_spec (ws := w_Node_promiseTo) B.pre
  have hall : ∀ w ∈ w_all, w.before _ s = true := fun w hw => hts w (List.mem_cons_of_mem _ hw)
  have hown : s.vm.findClass R_Node = some m.cls := findClass_of_methodNamed B.named
  have hx := B.exec
  have hb := B.bytes
  have hr := B.returns
  have hlk := B.notSynchronized
  have cx : Cx p s m _ meth c g R R_Node b_Node_promiseTo 2 none := ⟨hx, hb, hml, hr, hlk, hown, hall, hT, hK⟩
  have hl := lv_entry ([.ref a0, .ref a1]) (n := 2) (Nat.le_of_ble_eq_true rfl)
  rw [lg_entry_eq]
  generalize (lg_sl ([.ref a0, .ref a1]) ++ List.replicate (2 - (lg_sl ([.ref a0, .ref a1])).length) Slot.unset).toArray = ls at hl ⊢
  have hl : lv_has ls 2 [(0, .ref a0), (1, .ref a1)] := hl
  have hS : va_S (· ∈ g.L) s.heap s.heap [] := va_S.rf
  unfold F_Node_promiseTo at h
  refine lv_aload_n hx hb d_Node_promiseTo_0 rfl (lv_at hl 0 rfl) ?_
  refine lv_aload_n hx hb d_Node_promiseTo_1 rfl (lv_at hl 1 rfl) ?_
  refine gg_get (C := R_Node) (T := F_Node) (N := 10) (ci := 2) hx hb hall i_Node hown hK hP o1.1 (wE_2 o1.2) rfl 0 (by decide) (hall _ m_16) (fun _ h9 => h9) rfl d_Node_promiseTo_2 ?_
  refine gg_put (C := R_Node) (T := F_Node) (N := 10) (ci := 2) (ty := .int) hx hb hall i_Node t_Node t_Node_ok n_Node hown hT.1 hK hP hS o0.1 (wE_2 o0.2) rfl 8 (by decide) (hall _ m_44) (fun _ h9 => h9) rfl (by decide +kernel) rfl rfl (Nat.le_of_ble_eq_true rfl) (ws_Node_8 o0.2) d_Node_promiseTo_5 (fun I5 H locs e5 hP hS => ?_)
  replace h := ap_el e5 h
  refine lv_aload_n hx hb d_Node_promiseTo_8 rfl (lv_at hl 0 rfl) ?_
  refine lv_aload_n hx hb d_Node_promiseTo_9 rfl (lv_at hl 0 rfl) ?_
  refine gg_get (C := R_Node) (T := F_Node) (N := 10) (ci := 2) hx hb hall i_Node hown hK hP o0.1 (wE_2 o0.2) rfl 9 (by decide) (hall _ m_49) (fun _ h9 => h9) rfl d_Node_promiseTo_10 ?_
  refine lv_aload_n hx hb d_Node_promiseTo_13 rfl (lv_at hl 0 rfl) ?_
  obtain ⟨v14, e14, h⟩ := ob_el h
  refine gg_Vi (As := []) (rest := [.int (I5 a0 9), .ref a0]) (ci := 2) (C := R_Node) (T := F_Node) (N := 10) ⟨hx, hb, hml, hown, hall⟩ (c_Node_latest l hT o0 e14) (cwV 0 hall (gV m_54 m_55 m_56 m_48 m_53) rfl rfl rfl (by decide +kernel) ⟨Nat.le_of_ble_eq_true rfl, Nat.le_of_ble_eq_true rfl⟩) hK hP hS o0.1 (wE_2 o0.2) rfl rfl hl.1 rfl (Nat.le_of_ble_eq_true rfl) d_Node_promiseTo_14 (fun H locs hP hS => ?_)
  refine lv_bipush (v := 40) hx hb d_Node_promiseTo_17 (by decide) ?_
  refine lv_iadd hx hb d_Node_promiseTo_19 ?_
  refine gg_max hx hb hml hl.1 hown (hall _ m_57) (hall _ m_58) (hall _ m_18) (hall _ m_59) (Nat.le_of_ble_eq_true rfl) (Nat.le_of_ble_eq_true rfl) d_Node_promiseTo_20 ?_
  refine gg_put (C := R_Node) (T := F_Node) (N := 10) (ci := 2) (ty := .int) hx hb hall i_Node t_Node t_Node_ok n_Node hown hT.1 hK hP hS o0.1 (wE_2 o0.2) rfl 9 (by decide) (hall _ m_49) (fun _ h9 => h9) rfl (by decide +kernel) rfl rfl (Nat.le_of_ble_eq_true rfl) (ws_Node_9 o0.2) d_Node_promiseTo_23 (fun I23 H locs e23 hP hS => ?_)
  replace h := ap_el e23 h
  obtain rfl := Option.some.inj h
  exact gg_vret hx hb hr hlk hK hP hS d_Node_promiseTo_26
abbrev b_Store_gatherGrants : ByteArray := prog_1_method_29_code
def y_Store_gatherGrants : MethodName := ⟨"StampedStore", "gatherGrants", "(LStampedStore$Node;I)I"⟩
def w_Store_gatherGrants : List Cond := .code y_Store_gatherGrants b_Store_gatherGrants 7 (some .int) :: w_all
theorem d_Store_gatherGrants_0 : decode b_Store_gatherGrants 0 = .ok (.aload_n 1, 1) := by decide +kernel
theorem d_Store_gatherGrants_1 : decode b_Store_gatherGrants 1 = .ok (.invokestatic 207, 3) := by decide +kernel
theorem d_Store_gatherGrants_4 : decode b_Store_gatherGrants 4 = .ok (.istore_n 3, 1) := by decide +kernel
theorem d_Store_gatherGrants_5 : decode b_Store_gatherGrants 5 = .ok (.iconst 0, 1) := by decide +kernel
theorem d_Store_gatherGrants_6 : decode b_Store_gatherGrants 6 = .ok (.istore 4, 2) := by decide +kernel
theorem d_Store_gatherGrants_8 : decode b_Store_gatherGrants 8 = .ok (.iload_n 3, 1) := by decide +kernel
theorem d_Store_gatherGrants_9 : decode b_Store_gatherGrants 9 = .ok (.istore 5, 2) := by decide +kernel
theorem d_Store_gatherGrants_11 : decode b_Store_gatherGrants 11 = .ok (.iload 5, 2) := by decide +kernel
theorem d_Store_gatherGrants_13 : decode b_Store_gatherGrants 13 = .ok (.iload_n 3, 1) := by decide +kernel
theorem d_Store_gatherGrants_14 : decode b_Store_gatherGrants 14 = .ok (.iconst 3, 1) := by decide +kernel
theorem d_Store_gatherGrants_15 : decode b_Store_gatherGrants 15 = .ok (.iadd, 1) := by decide +kernel
theorem d_Store_gatherGrants_16 : decode b_Store_gatherGrants 16 = .ok (.if_icmp .ge 51, 3) := by decide +kernel
theorem d_Store_gatherGrants_19 : decode b_Store_gatherGrants 19 = .ok (.aload_n 0, 1) := by decide +kernel
theorem d_Store_gatherGrants_20 : decode b_Store_gatherGrants 20 = .ok (.getfield 11, 3) := by decide +kernel
theorem d_Store_gatherGrants_23 : decode b_Store_gatherGrants 23 = .ok (.iload 5, 2) := by decide +kernel
theorem d_Store_gatherGrants_25 : decode b_Store_gatherGrants 25 = .ok (.aaload, 1) := by decide +kernel
theorem d_Store_gatherGrants_26 : decode b_Store_gatherGrants 26 = .ok (.astore 6, 2) := by decide +kernel
theorem d_Store_gatherGrants_28 : decode b_Store_gatherGrants 28 = .ok (.aload 6, 2) := by decide +kernel
theorem d_Store_gatherGrants_30 : decode b_Store_gatherGrants 30 = .ok (.getfield 48, 3) := by decide +kernel
theorem d_Store_gatherGrants_33 : decode b_Store_gatherGrants 33 = .ok (.ifCond .eq 28, 3) := by decide +kernel
theorem d_Store_gatherGrants_36 : decode b_Store_gatherGrants 36 = .ok (.aload 6, 2) := by decide +kernel
theorem d_Store_gatherGrants_38 : decode b_Store_gatherGrants 38 = .ok (.aload_n 1, 1) := by decide +kernel
theorem d_Store_gatherGrants_39 : decode b_Store_gatherGrants 39 = .ok (.iload_n 2, 1) := by decide +kernel
theorem d_Store_gatherGrants_40 : decode b_Store_gatherGrants 40 = .ok (.invokevirtual 210, 3) := by decide +kernel
theorem d_Store_gatherGrants_43 : decode b_Store_gatherGrants 43 = .ok (.ifCond .eq 18, 3) := by decide +kernel
theorem d_Store_gatherGrants_46 : decode b_Store_gatherGrants 46 = .ok (.aload 6, 2) := by decide +kernel
theorem d_Store_gatherGrants_48 : decode b_Store_gatherGrants 48 = .ok (.iload_n 2, 1) := by decide +kernel
theorem d_Store_gatherGrants_49 : decode b_Store_gatherGrants 49 = .ok (.invokevirtual 94, 3) := by decide +kernel
theorem d_Store_gatherGrants_52 : decode b_Store_gatherGrants 52 = .ok (.aload 6, 2) := by decide +kernel
theorem d_Store_gatherGrants_54 : decode b_Store_gatherGrants 54 = .ok (.aload_n 1, 1) := by decide +kernel
theorem d_Store_gatherGrants_55 : decode b_Store_gatherGrants 55 = .ok (.invokevirtual 214, 3) := by decide +kernel
theorem d_Store_gatherGrants_58 : decode b_Store_gatherGrants 58 = .ok (.iinc 4 1, 3) := by decide +kernel
theorem d_Store_gatherGrants_61 : decode b_Store_gatherGrants 61 = .ok (.iinc 5 1, 3) := by decide +kernel
theorem d_Store_gatherGrants_64 : decode b_Store_gatherGrants 64 = .ok (.goto (-53), 3) := by decide +kernel
theorem d_Store_gatherGrants_67 : decode b_Store_gatherGrants 67 = .ok (.iload 4, 2) := by decide +kernel
theorem d_Store_gatherGrants_69 : decode b_Store_gatherGrants 69 = .ok (.ireturn, 1) := by decide +kernel
def B_Store_gatherGrants_61 (R : Nat → Nat → Nat) (k11 : Nat → Nat → Int32 → Int32 → Int32 → Int32 → St → Option (Int32 × St)) (a0 : Nat) (a1 : Nat) (x2 : Int32) (x3 : Int32) (x4 : Int32) (x5 : Int32) (I : St) : Option (Int32 × St) := k11 a0 a1 x2 x3 x4 (x5 + 1) I
set_option maxHeartbeats 4000000 in
set_option maxRecDepth 100000 in
theorem b_Store_gatherGrants_61 {p : Program} {l : Launch} {e : Env} {s : State} {m : MethodId} {args : Array Value} {below : List Frame} {meth : Method} {c : Code} {g : Sg} {R : Nat → Nat → Nat} {J : St} {v : Int32} (cx : Cx p s m args meth c g R R_Store b_Store_gatherGrants 7 (some .int)) {k11 : Nat → Nat → Int32 → Int32 → Int32 → Int32 → St → Option (Int32 × St)} (hk11 : ∀ (a0 : Nat) (a1 : Nat) (x2 : Int32) (x3 : Int32) (x4 : Int32) (x5 : Int32) (I : St) (H : Heap) (locs : List Loc) (ls : Array Slot), okA g 4 0 a0 → okA g 2 0 a1 → k11 a0 a1 x2 x3 x4 x5 I = some (v, J) → wW g R I H → va_S (· ∈ g.L) s.heap H locs → lv_has ls 7 [(0, .ref a0), (1, .ref a1), (2, .int x2), (3, .int x3), (4, .int x4), (5, .int x5)] → W p l e { frames := 3, cells := 0, slots := 0, locals := 64 } s m args below meth c H locs 0 0 (MQ below (Qi g R v J) args s 0 0 (· ∈ g.L)) (F0 m 11 ls [])) : ∀ (a0 : Nat) (a1 : Nat) (x2 : Int32) (x3 : Int32) (x4 : Int32) (x5 : Int32) (I : St) (H : Heap) (locs : List Loc) (ls : Array Slot), okA g 4 0 a0 → okA g 2 0 a1 → B_Store_gatherGrants_61 R k11 a0 a1 x2 x3 x4 x5 I = some (v, J) → wW g R I H → va_S (· ∈ g.L) s.heap H locs → lv_has ls 7 [(0, .ref a0), (1, .ref a1), (2, .int x2), (3, .int x3), (4, .int x4), (5, .int x5)] → W p l e { frames := 3, cells := 0, slots := 0, locals := 64 } s m args below meth c H locs 0 0 (MQ below (Qi g R v J) args s 0 0 (· ∈ g.L)) (F0 m 61 ls []) := by
  have ⟨hx, hb, hml, hr, hlk, hown, hall, hT, hK⟩ := cx
  intro a0 a1 x2 x3 x4 x5 I H locs ls o0 o1 h hP hS hl
  unfold B_Store_gatherGrants_61 at h
  refine lv_iinc (k := 5) (v := (x5 + 1)) (lv' := [(5, .int (x5 + 1)), (0, .ref a0), (1, .ref a1), (2, .int x2), (3, .int x3), (4, .int x4)]) hx hb d_Store_gatherGrants_61 hl rfl (by rw [show Int32.ofInt 1 = (1 : Int32) from by decide]) (Nat.le_of_ble_eq_true rfl) rfl (fun ls hl => ?_)
  refine lv_goto hx hb d_Store_gatherGrants_64 rfl ?_
  exact hk11 _ _ _ _ _ _ _ _ _ _ o0 o1 h hP hS (lv_sub hl [1, 2, 3, 4, 5, 0] rfl)
def B_Store_gatherGrants_11 (R : Nat → Nat → Nat) : Nat → Nat → Nat → Int32 → Int32 → Int32 → Int32 → St → Option (Int32 × St)
  | 0, _, _, _, _, _, _, _ => none
  | f + 1, a0, a1, x2, x3, x4, x5, I => (if (x3 + (3 : Int32)) ≤ x5 then some (x4, I) else (chk x5 6 ((if (I (R (R a0 1) x5.toNatClampNeg) 3) = 0 then B_Store_gatherGrants_61 R (B_Store_gatherGrants_11 R f) a0 a1 x2 x3 x4 x5 I else (ob (F_Node_wouldGrant R (R (R a0 1) x5.toNatClampNeg) a1 x2 I) (fun v40 => (if v40 = 0 then B_Store_gatherGrants_61 R (B_Store_gatherGrants_11 R f) a0 a1 x2 x3 x4 x5 I else (ob (F_Node_takeEpoch R (R (R a0 1) x5.toNatClampNeg) x2 I) (fun I49 => (ob (F_Node_promiseTo R (R (R a0 1) x5.toNatClampNeg) a1 I49) (fun I55 => B_Store_gatherGrants_61 R (B_Store_gatherGrants_11 R f) a0 a1 x2 x3 (x4 + 1) x5 I55)))))))))))
set_option maxHeartbeats 4000000 in
set_option maxRecDepth 100000 in
theorem b_Store_gatherGrants_11 {p : Program} {l : Launch} {e : Env} {s : State} {m : MethodId} {args : Array Value} {below : List Frame} {meth : Method} {c : Code} {g : Sg} {R : Nat → Nat → Nat} {J : St} {v : Int32} (cx : Cx p s m args meth c g R R_Store b_Store_gatherGrants 7 (some .int)) (f : Nat) : ∀ (a0 : Nat) (a1 : Nat) (x2 : Int32) (x3 : Int32) (x4 : Int32) (x5 : Int32) (I : St) (H : Heap) (locs : List Loc) (ls : Array Slot), okA g 4 0 a0 → okA g 2 0 a1 → B_Store_gatherGrants_11 R f a0 a1 x2 x3 x4 x5 I = some (v, J) → wW g R I H → va_S (· ∈ g.L) s.heap H locs → lv_has ls 7 [(0, .ref a0), (1, .ref a1), (2, .int x2), (3, .int x3), (4, .int x4), (5, .int x5)] → W p l e { frames := 3, cells := 0, slots := 0, locals := 64 } s m args below meth c H locs 0 0 (MQ below (Qi g R v J) args s 0 0 (· ∈ g.L)) (F0 m 11 ls []) := by
  have ⟨hx, hb, hml, hr, hlk, hown, hall, hT, hK⟩ := cx
  induction f with
  | zero => intro a0 a1 x2 x3 x4 x5 I H locs ls o0 o1 h; unfold B_Store_gatherGrants_11 at h; cases h
  | succ f ih =>
    intro a0 a1 x2 x3 x4 x5 I H locs ls o0 o1 h hP hS hl
    unfold B_Store_gatherGrants_11 at h
    refine lv_iload hx hb d_Store_gatherGrants_11 (lv_at hl 5 rfl) ?_
    refine lv_iload_n hx hb d_Store_gatherGrants_13 rfl (lv_at hl 3 rfl) ?_
    refine lv_iconst (v := 3) hx hb d_Store_gatherGrants_14 (by decide) ?_
    refine lv_iadd hx hb d_Store_gatherGrants_15 ?_
    refine lv_icmp_ge hx hb d_Store_gatherGrants_16 rfl (fun hc => ?_) (fun hc => ?_)
    · replace h := i_pos hc h
      refine lv_iload hx hb d_Store_gatherGrants_67 (lv_at hl 4 rfl) ?_
      obtain ⟨rfl, rfl⟩ := rt_el h
      exact gg_iret hx hb hr hlk hK hP hS d_Store_gatherGrants_69
    · replace h := i_neg hc h
      refine lv_aload_n hx hb d_Store_gatherGrants_19 rfl (lv_at hl 0 rfl) ?_
      refine gg_get (C := R_Store) (T := F_Store) (N := 4) (ci := 4) hx hb hall i_Store hown hK hP o0.1 (wE_4 o0.2) rfl 1 (by decide) (hall _ m_8) (fun _ h9 => h9) rfl d_Store_gatherGrants_20 ?_
      have o_20 : okA g 8 6 (R a0 1) := ty_Store_1 hT o0
      refine lv_iload hx hb d_Store_gatherGrants_23 (lv_at hl 5 rfl) ?_
      obtain ⟨hi25, h⟩ := chk_el h
      refine gg_nald hx hb hK hP o_20 hi25 d_Store_gatherGrants_25 ?_
      have o_25 : okA g 2 0 (R (R a0 1) x5.toNatClampNeg) := ty_8 hT o_20 _
      refine lv_astore (lv' := [(6, .ref (R (R a0 1) x5.toNatClampNeg)), (0, .ref a0), (1, .ref a1), (2, .int x2), (3, .int x3), (4, .int x4), (5, .int x5)]) hx hb d_Store_gatherGrants_26 hl (Nat.le_of_ble_eq_true rfl) rfl (fun ls hl => ?_)
      refine lv_aload hx hb d_Store_gatherGrants_28 (lv_at hl 0 rfl) ?_
      refine gg_get (C := R_Node) (T := F_Node) (N := 10) (ci := 2) hx hb hall i_Node hown hK hP o_25.1 (wE_2 o_25.2) rfl 3 (by decide) (hall _ m_11) (fun _ h9 => h9) rfl d_Store_gatherGrants_30 ?_
      refine lv_if_eq hx hb d_Store_gatherGrants_33 rfl (fun hc => ?_) (fun hc => ?_)
      · replace h := i_pos hc h
        exact b_Store_gatherGrants_61 cx ih _ _ _ _ _ _ _ _ _ _ o0 o1 h hP hS (lv_sub hl [1, 2, 3, 4, 5, 6] rfl)
      · replace h := i_neg hc h
        refine lv_aload hx hb d_Store_gatherGrants_36 (lv_at hl 0 rfl) ?_
        refine lv_aload_n hx hb d_Store_gatherGrants_38 rfl (lv_at hl 2 rfl) ?_
        refine lv_iload_n hx hb d_Store_gatherGrants_39 rfl (lv_at hl 3 rfl) ?_
        obtain ⟨v40, e40, h⟩ := ob_el h
        refine gg_Vi (As := [.ref a1, .int x2]) (rest := []) (ci := 2) (C := R_Node) (T := F_Node) (N := 10) ⟨hx, hb, hml, hown, hall⟩ (c_Node_wouldGrant l hT o_25 o1 e40) (cwV 2 hall (gV m_61 m_62 m_63 m_48 m_50) rfl rfl rfl (by decide +kernel) ⟨Nat.le_of_ble_eq_true rfl, Nat.le_of_ble_eq_true rfl⟩) hK hP hS o_25.1 (wE_2 o_25.2) rfl rfl hl.1 rfl (Nat.le_of_ble_eq_true rfl) d_Store_gatherGrants_40 (fun H locs hP hS => ?_)
        refine lv_if_eq hx hb d_Store_gatherGrants_43 rfl (fun hc => ?_) (fun hc => ?_)
        · replace h := i_pos hc h
          exact b_Store_gatherGrants_61 cx ih _ _ _ _ _ _ _ _ _ _ o0 o1 h hP hS (lv_sub hl [1, 2, 3, 4, 5, 6] rfl)
        · replace h := i_neg hc h
          refine lv_aload hx hb d_Store_gatherGrants_46 (lv_at hl 0 rfl) ?_
          refine lv_iload_n hx hb d_Store_gatherGrants_48 rfl (lv_at hl 3 rfl) ?_
          obtain ⟨I49, e49, h⟩ := ob_el h
          refine gg_Vv (As := [.int x2]) (rest := []) (ci := 2) (C := R_Node) (T := F_Node) (N := 10) ⟨hx, hb, hml, hown, hall⟩ (c_Node_takeEpoch l hT o_25 e49) (cwV 1 hall (gV m_64 m_65 m_66 m_48 m_52) rfl rfl rfl (by decide +kernel) ⟨Nat.le_of_ble_eq_true rfl, Nat.le_of_ble_eq_true rfl⟩) hK hP hS o_25.1 (wE_2 o_25.2) rfl rfl hl.1 rfl (Nat.le_of_ble_eq_true rfl) d_Store_gatherGrants_49 (fun H locs hP hS => ?_)
          refine lv_aload hx hb d_Store_gatherGrants_52 (lv_at hl 0 rfl) ?_
          refine lv_aload_n hx hb d_Store_gatherGrants_54 rfl (lv_at hl 2 rfl) ?_
          obtain ⟨I55, e55, h⟩ := ob_el h
          refine gg_Vv (As := [.ref a1]) (rest := []) (ci := 2) (C := R_Node) (T := F_Node) (N := 10) ⟨hx, hb, hml, hown, hall⟩ (c_Node_promiseTo l hT o_25 o1 e55) (cwV 1 hall (gV m_67 m_68 m_69 m_48 m_60) rfl rfl rfl (by decide +kernel) ⟨Nat.le_of_ble_eq_true rfl, Nat.le_of_ble_eq_true rfl⟩) hK hP hS o_25.1 (wE_2 o_25.2) rfl rfl hl.1 rfl (Nat.le_of_ble_eq_true rfl) d_Store_gatherGrants_55 (fun H locs hP hS => ?_)
          refine lv_iinc (k := 5) (v := (x4 + 1)) (lv' := [(4, .int (x4 + 1)), (6, .ref (R (R a0 1) x5.toNatClampNeg)), (0, .ref a0), (1, .ref a1), (2, .int x2), (3, .int x3), (5, .int x5)]) hx hb d_Store_gatherGrants_58 hl rfl (by rw [show Int32.ofInt 1 = (1 : Int32) from by decide]) (Nat.le_of_ble_eq_true rfl) rfl (fun ls hl => ?_)
          exact b_Store_gatherGrants_61 cx ih _ _ _ _ _ _ _ _ _ _ o0 o1 h hP hS (lv_sub hl [2, 3, 4, 5, 0, 6] rfl)
def F_Store_gatherGrants (R : Nat → Nat → Nat) (a0 : Nat) (a1 : Nat) (x2 : Int32) (I : St) : Option (Int32 × St) := (ob (F_Store_firstNodeBeside R a1 I) (fun v1 => B_Store_gatherGrants_11 R 100 a0 a1 x2 v1 (0 : Int32) v1 I))
set_option maxHeartbeats 4000000 in
set_option maxRecDepth 100000 in
theorem c_Store_gatherGrants (l : Launch) {g : Sg} {R : Nat → Nat → Nat} (hT : Ty g R) {a0 : Nat} (o0 : okA g 4 0 a0) {a1 : Nat} (o1 : okA g 2 0 a1) {x2 : Int32} {I : St} {J : St} {v : Int32} (h : F_Store_gatherGrants R a0 a1 x2 I = some (v, J)) : Cti l g R y_Store_gatherGrants w_Store_gatherGrants 3 64 [.ref a0, .ref a1, .int x2] I v J := by
  unfold Cti
  refine Met.ofW (cc := b_Store_gatherGrants) (maxL := 7) (ret := (some .int)) (by decide) rfl ?_
  intro p e s m args below meth c s₁ B hml hv
  obtain ⟨rfl, hP, hK⟩ := hv
  have hts := atoms_spec (ws := w_Store_gatherGrants) B.pre
  have hall : ∀ w ∈ w_all, w.before _ s = true := fun w hw => hts w (List.mem_cons_of_mem _ hw)
  have hown : s.vm.findClass R_Store = some m.cls := findClass_of_methodNamed B.named
  have hx := B.exec
  have hb := B.bytes
  have hr := B.returns
  have hlk := B.notSynchronized
  have cx : Cx p s m _ meth c g R R_Store b_Store_gatherGrants 7 (some .int) := ⟨hx, hb, hml, hr, hlk, hown, hall, hT, hK⟩
  have hl := lv_entry ([.ref a0, .ref a1, .int x2]) (n := 7) (Nat.le_of_ble_eq_true rfl)
  rw [lg_entry_eq]
  generalize (lg_sl ([.ref a0, .ref a1, .int x2]) ++ List.replicate (7 - (lg_sl ([.ref a0, .ref a1, .int x2])).length) Slot.unset).toArray = ls at hl ⊢
  have hl : lv_has ls 7 [(0, .ref a0), (1, .ref a1), (2, .int x2)] := hl
  have hS : va_S (· ∈ g.L) s.heap s.heap [] := va_S.rf
  unfold F_Store_gatherGrants at h
  refine lv_aload_n hx hb d_Store_gatherGrants_0 rfl (lv_at hl 1 rfl) ?_
  obtain ⟨v1, e1, h⟩ := ob_el h
  refine gg_Si (As := [.ref a1]) (rest := []) ⟨hx, hb, hml, hown, hall⟩ (c_Store_firstNodeBeside l hT o1 e1) (cwS 1 hall (gS m_70 m_71 m_6 m_26) rfl rfl rfl (by decide +kernel) ⟨Nat.le_of_ble_eq_true rfl, Nat.le_of_ble_eq_true rfl⟩) hK hP hS rfl hl.1 rfl (Nat.le_of_ble_eq_true rfl) d_Store_gatherGrants_1 (fun H locs hP hS => ?_)
  refine lv_istore_n (lv' := [(3, .int v1), (0, .ref a0), (1, .ref a1), (2, .int x2)]) hx hb d_Store_gatherGrants_4 rfl hl (Nat.le_of_ble_eq_true rfl) rfl (fun ls hl => ?_)
  refine lv_iconst (v := 0) hx hb d_Store_gatherGrants_5 (by decide) ?_
  refine lv_istore (lv' := [(4, .int (0 : Int32)), (3, .int v1), (0, .ref a0), (1, .ref a1), (2, .int x2)]) hx hb d_Store_gatherGrants_6 hl (Nat.le_of_ble_eq_true rfl) rfl (fun ls hl => ?_)
  refine lv_iload_n hx hb d_Store_gatherGrants_8 rfl (lv_at hl 1 rfl) ?_
  refine lv_istore (lv' := [(5, .int v1), (4, .int (0 : Int32)), (3, .int v1), (0, .ref a0), (1, .ref a1), (2, .int x2)]) hx hb d_Store_gatherGrants_9 hl (Nat.le_of_ble_eq_true rfl) rfl (fun ls hl => ?_)
  exact b_Store_gatherGrants_11 cx 100 _ _ _ _ _ _ _ _ _ _ o0 o1 h hP hS (lv_sub hl [3, 4, 5, 2, 1, 0] rfl)
abbrev b_Log_greatestStamp : ByteArray := prog_3_method_8_code
def y_Log_greatestStamp : MethodName := ⟨"StampedStore$Log", "greatestStamp", "()I"⟩
def w_Log_greatestStamp : List Cond := .code y_Log_greatestStamp b_Log_greatestStamp 3 (some .int) :: w_all
theorem d_Log_greatestStamp_0 : decode b_Log_greatestStamp 0 = .ok (.iconst (-1), 1) := by decide +kernel
theorem d_Log_greatestStamp_1 : decode b_Log_greatestStamp 1 = .ok (.istore_n 1, 1) := by decide +kernel
theorem d_Log_greatestStamp_2 : decode b_Log_greatestStamp 2 = .ok (.iconst 0, 1) := by decide +kernel
theorem d_Log_greatestStamp_3 : decode b_Log_greatestStamp 3 = .ok (.istore_n 2, 1) := by decide +kernel
theorem d_Log_greatestStamp_4 : decode b_Log_greatestStamp 4 = .ok (.iload_n 2, 1) := by decide +kernel
theorem d_Log_greatestStamp_5 : decode b_Log_greatestStamp 5 = .ok (.aload_n 0, 1) := by decide +kernel
theorem d_Log_greatestStamp_6 : decode b_Log_greatestStamp 6 = .ok (.getfield 27, 3) := by decide +kernel
theorem d_Log_greatestStamp_9 : decode b_Log_greatestStamp 9 = .ok (.if_icmp .ge 29, 3) := by decide +kernel
theorem d_Log_greatestStamp_12 : decode b_Log_greatestStamp 12 = .ok (.iload_n 1, 1) := by decide +kernel
theorem d_Log_greatestStamp_13 : decode b_Log_greatestStamp 13 = .ok (.aload_n 0, 1) := by decide +kernel
theorem d_Log_greatestStamp_14 : decode b_Log_greatestStamp 14 = .ok (.getfield 15, 3) := by decide +kernel
theorem d_Log_greatestStamp_17 : decode b_Log_greatestStamp 17 = .ok (.iload_n 2, 1) := by decide +kernel
theorem d_Log_greatestStamp_18 : decode b_Log_greatestStamp 18 = .ok (.iaload, 1) := by decide +kernel
theorem d_Log_greatestStamp_19 : decode b_Log_greatestStamp 19 = .ok (.aload_n 0, 1) := by decide +kernel
theorem d_Log_greatestStamp_20 : decode b_Log_greatestStamp 20 = .ok (.getfield 24, 3) := by decide +kernel
theorem d_Log_greatestStamp_23 : decode b_Log_greatestStamp 23 = .ok (.iload_n 2, 1) := by decide +kernel
theorem d_Log_greatestStamp_24 : decode b_Log_greatestStamp 24 = .ok (.iaload, 1) := by decide +kernel
theorem d_Log_greatestStamp_25 : decode b_Log_greatestStamp 25 = .ok (.invokestatic 42, 3) := by decide +kernel
theorem d_Log_greatestStamp_28 : decode b_Log_greatestStamp 28 = .ok (.invokestatic 42, 3) := by decide +kernel
theorem d_Log_greatestStamp_31 : decode b_Log_greatestStamp 31 = .ok (.istore_n 1, 1) := by decide +kernel
theorem d_Log_greatestStamp_32 : decode b_Log_greatestStamp 32 = .ok (.iinc 2 1, 3) := by decide +kernel
theorem d_Log_greatestStamp_35 : decode b_Log_greatestStamp 35 = .ok (.goto (-31), 3) := by decide +kernel
theorem d_Log_greatestStamp_38 : decode b_Log_greatestStamp 38 = .ok (.iload_n 1, 1) := by decide +kernel
theorem d_Log_greatestStamp_39 : decode b_Log_greatestStamp 39 = .ok (.ireturn, 1) := by decide +kernel
def B_Log_greatestStamp_4 (R : Nat → Nat → Nat) (I : St) : Nat → Nat → Int32 → Int32 → Option Int32
  | 0, _, _, _ => none
  | f + 1, a0, x1, x2 => (if (I a0 5) ≤ x2 then some x1 else (chk x2 60 ((chk x2 60 (B_Log_greatestStamp_4 R I f a0 (imax x1 (imax (I (R a0 1) x2.toNatClampNeg) (I (R a0 4) x2.toNatClampNeg))) (x2 + 1))))))
set_option maxHeartbeats 4000000 in
set_option maxRecDepth 100000 in
theorem b_Log_greatestStamp_4 {p : Program} {l : Launch} {e : Env} {s : State} {m : MethodId} {args : Array Value} {below : List Frame} {meth : Method} {c : Code} {g : Sg} {R : Nat → Nat → Nat} {I : St} {v : Int32} (cx : Cx p s m args meth c g R R_Log b_Log_greatestStamp 3 (some .int)) (f : Nat) : ∀ (a0 : Nat) (x1 : Int32) (x2 : Int32) (H : Heap) (locs : List Loc) (ls : Array Slot), okA g 1 0 a0 → B_Log_greatestStamp_4 R I f a0 x1 x2 = some v → wW g R I H → va_S (· ∈ g.L) s.heap H locs → lv_has ls 3 [(0, .ref a0), (1, .int x1), (2, .int x2)] → W p l e { frames := 1, cells := 0, slots := 0, locals := 22 } s m args below meth c H locs 0 0 (MQ below (Qi g R v I) args s 0 0 (· ∈ g.L)) (F0 m 4 ls []) := by
  have ⟨hx, hb, hml, hr, hlk, hown, hall, hT, hK⟩ := cx
  induction f with
  | zero => intro a0 x1 x2 H locs ls o0 h; unfold B_Log_greatestStamp_4 at h; cases h
  | succ f ih =>
    intro a0 x1 x2 H locs ls o0 h hP hS hl
    unfold B_Log_greatestStamp_4 at h
    refine lv_iload_n hx hb d_Log_greatestStamp_4 rfl (lv_at hl 2 rfl) ?_
    refine lv_aload_n hx hb d_Log_greatestStamp_5 rfl (lv_at hl 0 rfl) ?_
    refine gg_get (C := R_Log) (T := F_Log) (N := 7) (ci := 1) hx hb hall i_Log hown hK hP o0.1 (wE_1 o0.2) rfl 5 (by decide) (hall _ m_32) (fun _ h9 => h9) rfl d_Log_greatestStamp_6 ?_
    refine lv_icmp_ge hx hb d_Log_greatestStamp_9 rfl (fun hc => ?_) (fun hc => ?_)
    · replace h := i_pos hc h
      refine lv_iload_n hx hb d_Log_greatestStamp_38 rfl (lv_at hl 1 rfl) ?_
      obtain rfl := Option.some.inj h
      exact gg_iret hx hb hr hlk hK hP hS d_Log_greatestStamp_39
    · replace h := i_neg hc h
      refine lv_iload_n hx hb d_Log_greatestStamp_12 rfl (lv_at hl 1 rfl) ?_
      refine lv_aload_n hx hb d_Log_greatestStamp_13 rfl (lv_at hl 0 rfl) ?_
      refine gg_get (C := R_Log) (T := F_Log) (N := 7) (ci := 1) hx hb hall i_Log hown hK hP o0.1 (wE_1 o0.2) rfl 1 (by decide) (hall _ m_73) (fun _ h9 => h9) rfl d_Log_greatestStamp_14 ?_
      have o_14 : okA g 6 60 (R a0 1) := ty_Log_1 hT o0
      refine lv_iload_n hx hb d_Log_greatestStamp_17 rfl (lv_at hl 2 rfl) ?_
      obtain ⟨hi18, h⟩ := chk_el h
      refine gg_iald hx hb hK hP o_14 hi18 d_Log_greatestStamp_18 ?_
      refine lv_aload_n hx hb d_Log_greatestStamp_19 rfl (lv_at hl 0 rfl) ?_
      refine gg_get (C := R_Log) (T := F_Log) (N := 7) (ci := 1) hx hb hall i_Log hown hK hP o0.1 (wE_1 o0.2) rfl 4 (by decide) (hall _ m_74) (fun _ h9 => h9) rfl d_Log_greatestStamp_20 ?_
      have o_20 : okA g 6 60 (R a0 4) := ty_Log_4 hT o0
      refine lv_iload_n hx hb d_Log_greatestStamp_23 rfl (lv_at hl 2 rfl) ?_
      obtain ⟨hi24, h⟩ := chk_el h
      refine gg_iald hx hb hK hP o_20 hi24 d_Log_greatestStamp_24 ?_
      refine gg_max hx hb hml hl.1 hown (hall _ m_75) (hall _ m_58) (hall _ m_18) (hall _ m_59) (Nat.le_of_ble_eq_true rfl) (Nat.le_of_ble_eq_true rfl) d_Log_greatestStamp_25 ?_
      refine gg_max hx hb hml hl.1 hown (hall _ m_75) (hall _ m_58) (hall _ m_18) (hall _ m_59) (Nat.le_of_ble_eq_true rfl) (Nat.le_of_ble_eq_true rfl) d_Log_greatestStamp_28 ?_
      refine lv_istore_n (lv' := [(1, .int (imax x1 (imax (I (R a0 1) x2.toNatClampNeg) (I (R a0 4) x2.toNatClampNeg)))), (0, .ref a0), (2, .int x2)]) hx hb d_Log_greatestStamp_31 rfl hl (Nat.le_of_ble_eq_true rfl) rfl (fun ls hl => ?_)
      refine lv_iinc (k := 2) (v := (x2 + 1)) (lv' := [(2, .int (x2 + 1)), (1, .int (imax x1 (imax (I (R a0 1) x2.toNatClampNeg) (I (R a0 4) x2.toNatClampNeg)))), (0, .ref a0)]) hx hb d_Log_greatestStamp_32 hl rfl (by rw [show Int32.ofInt 1 = (1 : Int32) from by decide]) (Nat.le_of_ble_eq_true rfl) rfl (fun ls hl => ?_)
      refine lv_goto hx hb d_Log_greatestStamp_35 rfl ?_
      exact ih _ _ _ _ _ _ o0 h hP hS (lv_sub hl [2, 1, 0] rfl)
def F_Log_greatestStamp (R : Nat → Nat → Nat) (a0 : Nat) (I : St) : Option Int32 := B_Log_greatestStamp_4 R I 100 a0 (-1 : Int32) (0 : Int32)
set_option maxHeartbeats 4000000 in
set_option maxRecDepth 100000 in
theorem c_Log_greatestStamp (l : Launch) {g : Sg} {R : Nat → Nat → Nat} (hT : Ty g R) {a0 : Nat} (o0 : okA g 1 0 a0) {I : St} {v : Int32} (h : F_Log_greatestStamp R a0 I = some v) : Cti l g R y_Log_greatestStamp w_Log_greatestStamp 1 22 [.ref a0] I v I := by
  unfold Cti
  refine Met.ofW (cc := b_Log_greatestStamp) (maxL := 3) (ret := (some .int)) (by decide) rfl ?_
  intro p e s m args below meth c s₁ B hml hv
  obtain ⟨rfl, hP, hK⟩ := hv
  have hts := atoms_spec (ws := w_Log_greatestStamp) B.pre
  have hall : ∀ w ∈ w_all, w.before _ s = true := fun w hw => hts w (List.mem_cons_of_mem _ hw)
  have hown : s.vm.findClass R_Log = some m.cls := findClass_of_methodNamed B.named
  have hx := B.exec
  have hb := B.bytes
  have hr := B.returns
  have hlk := B.notSynchronized
  have cx : Cx p s m _ meth c g R R_Log b_Log_greatestStamp 3 (some .int) := ⟨hx, hb, hml, hr, hlk, hown, hall, hT, hK⟩
  have hl := lv_entry ([.ref a0]) (n := 3) (Nat.le_of_ble_eq_true rfl)
  rw [lg_entry_eq]
  generalize (lg_sl ([.ref a0]) ++ List.replicate (3 - (lg_sl ([.ref a0])).length) Slot.unset).toArray = ls at hl ⊢
  have hl : lv_has ls 3 [(0, .ref a0)] := hl
  have hS : va_S (· ∈ g.L) s.heap s.heap [] := va_S.rf
  unfold F_Log_greatestStamp at h
  refine lv_iconst (v := (-1)) hx hb d_Log_greatestStamp_0 (by decide) ?_
  refine lv_istore_n (lv' := [(1, .int (-1 : Int32)), (0, .ref a0)]) hx hb d_Log_greatestStamp_1 rfl hl (Nat.le_of_ble_eq_true rfl) rfl (fun ls hl => ?_)
  refine lv_iconst (v := 0) hx hb d_Log_greatestStamp_2 (by decide) ?_
  refine lv_istore_n (lv' := [(2, .int (0 : Int32)), (1, .int (-1 : Int32)), (0, .ref a0)]) hx hb d_Log_greatestStamp_3 rfl hl (Nat.le_of_ble_eq_true rfl) rfl (fun ls hl => ?_)
  exact b_Log_greatestStamp_4 cx 100 _ _ _ _ _ _ o0 h hP hS (lv_sub hl [2, 1, 0] rfl)
end
