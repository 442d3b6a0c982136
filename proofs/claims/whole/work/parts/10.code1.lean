section
abbrev b_Store_tick : ByteArray := prog_1_method_2_code
def y_Store_tick : MethodName := ⟨"StampedStore", "tick", "(I)I"⟩
def w_Store_tick : List Cond := .code y_Store_tick b_Store_tick 2 (some .int) :: w_all
theorem d_Store_tick_0 : decode b_Store_tick 0 = .ok (.iload_n 1, 1) := by decide +kernel
theorem d_Store_tick_1 : decode b_Store_tick 1 = .ok (.iconst 1, 1) := by decide +kernel
theorem d_Store_tick_2 : decode b_Store_tick 2 = .ok (.if_icmp .lt 9, 3) := by decide +kernel
theorem d_Store_tick_5 : decode b_Store_tick 5 = .ok (.iload_n 1, 1) := by decide +kernel
theorem d_Store_tick_6 : decode b_Store_tick 6 = .ok (.bipush 50, 2) := by decide +kernel
theorem d_Store_tick_8 : decode b_Store_tick 8 = .ok (.if_icmp .le 5, 3) := by decide +kernel
theorem d_Store_tick_11 : decode b_Store_tick 11 = .ok (.iconst (-1), 1) := by decide +kernel
theorem d_Store_tick_12 : decode b_Store_tick 12 = .ok (.ireturn, 1) := by decide +kernel
theorem d_Store_tick_13 : decode b_Store_tick 13 = .ok (.aload_n 0, 1) := by decide +kernel
theorem d_Store_tick_14 : decode b_Store_tick 14 = .ok (.getfield 26, 3) := by decide +kernel
theorem d_Store_tick_17 : decode b_Store_tick 17 = .ok (.dup, 1) := by decide +kernel
theorem d_Store_tick_18 : decode b_Store_tick 18 = .ok (.getfield 34, 3) := by decide +kernel
theorem d_Store_tick_21 : decode b_Store_tick 21 = .ok (.iload_n 1, 1) := by decide +kernel
theorem d_Store_tick_22 : decode b_Store_tick 22 = .ok (.iadd, 1) := by decide +kernel
theorem d_Store_tick_23 : decode b_Store_tick 23 = .ok (.putfield 34, 3) := by decide +kernel
theorem d_Store_tick_26 : decode b_Store_tick 26 = .ok (.aload_n 0, 1) := by decide +kernel
theorem d_Store_tick_27 : decode b_Store_tick 27 = .ok (.getfield 26, 3) := by decide +kernel
theorem d_Store_tick_30 : decode b_Store_tick 30 = .ok (.getfield 34, 3) := by decide +kernel
theorem d_Store_tick_33 : decode b_Store_tick 33 = .ok (.ireturn, 1) := by decide +kernel
def B_Store_tick_11 (R : Nat → Nat → Nat) (I : St) : Option (Int32 × St) := some ((-1 : Int32), I)
set_option maxHeartbeats 4000000 in
set_option maxRecDepth 100000 in
theorem b_Store_tick_11 {p : Program} {l : Launch} {e : Env} {s : State} {m : MethodId} {args : Array Value} {below : List Frame} {meth : Method} {c : Code} {g : Sg} {R : Nat → Nat → Nat} {J : St} {v : Int32} (cx : Cx p s m args meth c g R R_Store b_Store_tick 2 (some .int)) : ∀ (I : St) (H : Heap) (locs : List Loc) (ls : Array Slot), B_Store_tick_11 R I = some (v, J) → wW g R I H → va_S (· ∈ g.L) s.heap H locs → lv_has ls 2 [] → W p l e { frames := 0, cells := 0, slots := 0, locals := 0 } s m args below meth c H locs 0 0 (MQ below (Qi g R v J) args s 0 0 (· ∈ g.L)) (F0 m 11 ls []) := by
  have ⟨hx, hb, hml, hr, hlk, hown, hall, hT, hK⟩ := cx
  intro I H locs ls h hP hS hl
  unfold B_Store_tick_11 at h
  refine lv_iconst (v := (-1)) hx hb d_Store_tick_11 (by decide) ?_
  obtain ⟨rfl, rfl⟩ := rt_el h
  exact gg_iret hx hb hr hlk hK hP hS d_Store_tick_12
def F_Store_tick (R : Nat → Nat → Nat) (a0 : Nat) (x1 : Int32) (I : St) : Option (Int32 × St) := (if x1 < (1 : Int32) then B_Store_tick_11 R I else (if x1 ≤ (50 : Int32) then (ap (up2 I (R a0 0) 1 ((I (R a0 0) 1) + x1)) (fun I23 => some ((I23 (R a0 0) 1), I23))) else B_Store_tick_11 R I))
set_option maxHeartbeats 4000000 in
set_option maxRecDepth 100000 in
theorem c_Store_tick (l : Launch) {g : Sg} {R : Nat → Nat → Nat} (hT : Ty g R) {a0 : Nat} (o0 : okA g 4 0 a0) {x1 : Int32} {I : St} {J : St} {v : Int32} (h : F_Store_tick R a0 x1 I = some (v, J)) : Cti l g R y_Store_tick w_Store_tick 0 0 [.ref a0, .int x1] I v J := by
  unfold Cti
  refine Met.ofW (cc := b_Store_tick) (maxL := 2) (ret := (some .int)) (by decide) rfl ?_
  intro p e s m args below meth c s₁ B hml hv
  obtain ⟨rfl, hP, hK⟩ := hv
  have hts := atoms_spec (ws := w_Store_tick) B.pre
  have hall : ∀ w ∈ w_all, w.before _ s = true := fun w hw => hts w (List.mem_cons_of_mem _ hw)
  have hown : s.vm.findClass R_Store = some m.cls := findClass_of_methodNamed B.named
  have hx := B.exec
  have hb := B.bytes
  have hr := B.returns
  have hlk := B.notSynchronized
  have cx : Cx p s m _ meth c g R R_Store b_Store_tick 2 (some .int) := ⟨hx, hb, hml, hr, hlk, hown, hall, hT, hK⟩
  have hl := lv_entry ([.ref a0, .int x1]) (n := 2) (Nat.le_of_ble_eq_true rfl)
  rw [lg_entry_eq]
  generalize (lg_sl ([.ref a0, .int x1]) ++ List.replicate (2 - (lg_sl ([.ref a0, .int x1])).length) Slot.unset).toArray = ls at hl ⊢
  have hl : lv_has ls 2 [(0, .ref a0), (1, .int x1)] := hl
  have hS : va_S (· ∈ g.L) s.heap s.heap [] := va_S.rf
  unfold F_Store_tick at h
  refine lv_iload_n hx hb d_Store_tick_0 rfl (lv_at hl 1 rfl) ?_
  refine lv_iconst (v := 1) hx hb d_Store_tick_1 (by decide) ?_
  refine lv_icmp_lt hx hb d_Store_tick_2 rfl (fun hc => ?_) (fun hc => ?_)
  · replace h := i_pos hc h
    exact b_Store_tick_11 cx _ _ _ _ h hP hS (lv_sub hl [] rfl)
  · replace h := i_neg hc h
    refine lv_iload_n hx hb d_Store_tick_5 rfl (lv_at hl 1 rfl) ?_
    refine lv_bipush (v := 50) hx hb d_Store_tick_6 (by decide) ?_
    refine lv_icmp_le hx hb d_Store_tick_8 rfl (fun hc => ?_) (fun hc => ?_)
    · replace h := i_pos hc h
      refine lv_aload_n hx hb d_Store_tick_13 rfl (lv_at hl 0 rfl) ?_
      refine gg_get (C := R_Store) (T := F_Store) (N := 4) (ci := 4) hx hb hall i_Store hown hK hP o0.1 (wE_4 o0.2) rfl 0 (by decide) (hall _ m_0) (fun _ h9 => h9) rfl d_Store_tick_14 ?_
      have o_14 : okA g 0 0 (R a0 0) := ty_Store_0 hT o0
      refine lv_dup hx hb d_Store_tick_17 rfl ?_
      refine gg_get (C := R_Clock) (T := F_Clock) (N := 2) (ci := 0) hx hb hall i_Clock hown hK hP o_14.1 (wE_0 o_14.2) rfl 1 (by decide) (hall _ m_1) (fun _ h9 => h9) rfl d_Store_tick_18 ?_
      refine lv_iload_n hx hb d_Store_tick_21 rfl (lv_at hl 1 rfl) ?_
      refine lv_iadd hx hb d_Store_tick_22 ?_
      refine gg_put (C := R_Clock) (T := F_Clock) (N := 2) (ci := 0) (ty := .int) hx hb hall i_Clock t_Clock t_Clock_ok n_Clock hown hT.1 hK hP hS o_14.1 (wE_0 o_14.2) rfl 1 (by decide) (hall _ m_1) (fun _ h9 => h9) rfl (by decide +kernel) rfl rfl (Nat.le_of_ble_eq_true rfl) (ws_Clock_1 o_14.2) d_Store_tick_23 (fun I23 H locs e23 hP hS => ?_)
      replace h := ap_el e23 h
      refine lv_aload_n hx hb d_Store_tick_26 rfl (lv_at hl 0 rfl) ?_
      refine gg_get (C := R_Store) (T := F_Store) (N := 4) (ci := 4) hx hb hall i_Store hown hK hP o0.1 (wE_4 o0.2) rfl 0 (by decide) (hall _ m_0) (fun _ h9 => h9) rfl d_Store_tick_27 ?_
      have o_27 : okA g 0 0 (R a0 0) := ty_Store_0 hT o0
      refine gg_get (C := R_Clock) (T := F_Clock) (N := 2) (ci := 0) hx hb hall i_Clock hown hK hP o_27.1 (wE_0 o_27.2) rfl 1 (by decide) (hall _ m_1) (fun _ h9 => h9) rfl d_Store_tick_30 ?_
      obtain ⟨rfl, rfl⟩ := rt_el h
      exact gg_iret hx hb hr hlk hK hP hS d_Store_tick_33
    · replace h := i_neg hc h
      exact b_Store_tick_11 cx _ _ _ _ h hP hS (lv_sub hl [] rfl)
abbrev b_Store_isNode : ByteArray := prog_1_method_22_code
def y_Store_isNode : MethodName := ⟨"StampedStore", "isNode", "(I)Z"⟩
def w_Store_isNode : List Cond := .code y_Store_isNode b_Store_isNode 1 (some .boolean) :: w_all
theorem d_Store_isNode_0 : decode b_Store_isNode 0 = .ok (.iload_n 0, 1) := by decide +kernel
theorem d_Store_isNode_1 : decode b_Store_isNode 1 = .ok (.ifCond .lt 13, 3) := by decide +kernel
theorem d_Store_isNode_4 : decode b_Store_isNode 4 = .ok (.iload_n 0, 1) := by decide +kernel
theorem d_Store_isNode_5 : decode b_Store_isNode 5 = .ok (.bipush 6, 2) := by decide +kernel
theorem d_Store_isNode_7 : decode b_Store_isNode 7 = .ok (.if_icmp .ge 7, 3) := by decide +kernel
theorem d_Store_isNode_10 : decode b_Store_isNode 10 = .ok (.iconst 1, 1) := by decide +kernel
theorem d_Store_isNode_11 : decode b_Store_isNode 11 = .ok (.goto 4, 3) := by decide +kernel
theorem d_Store_isNode_14 : decode b_Store_isNode 14 = .ok (.iconst 0, 1) := by decide +kernel
theorem d_Store_isNode_15 : decode b_Store_isNode 15 = .ok (.ireturn, 1) := by decide +kernel
def B_Store_isNode_14 (R : Nat → Nat → Nat) (I : St) : Option Int32 := some (0 : Int32)
set_option maxHeartbeats 4000000 in
set_option maxRecDepth 100000 in
theorem b_Store_isNode_14 {p : Program} {l : Launch} {e : Env} {s : State} {m : MethodId} {args : Array Value} {below : List Frame} {meth : Method} {c : Code} {g : Sg} {R : Nat → Nat → Nat} {I : St} {v : Int32} (cx : Cx p s m args meth c g R R_Store b_Store_isNode 1 (some .boolean)) : ∀ (H : Heap) (locs : List Loc) (ls : Array Slot), B_Store_isNode_14 R I = some v → wW g R I H → va_S (· ∈ g.L) s.heap H locs → lv_has ls 1 [] → W p l e { frames := 0, cells := 0, slots := 0, locals := 0 } s m args below meth c H locs 0 0 (MQ below (Qi g R v I) args s 0 0 (· ∈ g.L)) (F0 m 14 ls []) := by
  have ⟨hx, hb, hml, hr, hlk, hown, hall, hT, hK⟩ := cx
  intro H locs ls h hP hS hl
  unfold B_Store_isNode_14 at h
  refine lv_iconst (v := 0) hx hb d_Store_isNode_14 (by decide) ?_
  obtain rfl := Option.some.inj h
  exact gg_zret hx hb hr hlk rfl hK hP hS d_Store_isNode_15
def F_Store_isNode (R : Nat → Nat → Nat) (x0 : Int32) (I : St) : Option Int32 := (if x0 < 0 then B_Store_isNode_14 R I else (if (6 : Int32) ≤ x0 then B_Store_isNode_14 R I else some (1 : Int32)))
set_option maxHeartbeats 4000000 in
set_option maxRecDepth 100000 in
theorem c_Store_isNode (l : Launch) {g : Sg} {R : Nat → Nat → Nat} (hT : Ty g R) {x0 : Int32} {I : St} {v : Int32} (h : F_Store_isNode R x0 I = some v) : Cti l g R y_Store_isNode w_Store_isNode 0 0 [.int x0] I v I := by
  unfold Cti
  refine Met.ofW (cc := b_Store_isNode) (maxL := 1) (ret := (some .boolean)) (by decide) rfl ?_
  intro p e s m args below meth c s₁ B hml hv
  obtain ⟨rfl, hP, hK⟩ := hv
  have hts := atoms_spec (ws := w_Store_isNode) B.pre
  have hall : ∀ w ∈ w_all, w.before _ s = true := fun w hw => hts w (List.mem_cons_of_mem _ hw)
  have hown : s.vm.findClass R_Store = some m.cls := findClass_of_methodNamed B.named
  have hx := B.exec
  have hb := B.bytes
  have hr := B.returns
  have hlk := B.notSynchronized
  have cx : Cx p s m _ meth c g R R_Store b_Store_isNode 1 (some .boolean) := ⟨hx, hb, hml, hr, hlk, hown, hall, hT, hK⟩
  have hl := lv_entry ([.int x0]) (n := 1) (Nat.le_of_ble_eq_true rfl)
  rw [lg_entry_eq]
  generalize (lg_sl ([.int x0]) ++ List.replicate (1 - (lg_sl ([.int x0])).length) Slot.unset).toArray = ls at hl ⊢
  have hl : lv_has ls 1 [(0, .int x0)] := hl
  have hS : va_S (· ∈ g.L) s.heap s.heap [] := va_S.rf
  unfold F_Store_isNode at h
  refine lv_iload_n hx hb d_Store_isNode_0 rfl (lv_at hl 0 rfl) ?_
  refine lv_if_lt hx hb d_Store_isNode_1 rfl (fun hc => ?_) (fun hc => ?_)
  · replace h := i_pos hc h
    exact b_Store_isNode_14 cx _ _ _ h hP hS (lv_sub hl [] rfl)
  · replace h := i_neg hc h
    refine lv_iload_n hx hb d_Store_isNode_4 rfl (lv_at hl 0 rfl) ?_
    refine lv_bipush (v := 6) hx hb d_Store_isNode_5 (by decide) ?_
    refine lv_icmp_ge hx hb d_Store_isNode_7 rfl (fun hc => ?_) (fun hc => ?_)
    · replace h := i_pos hc h
      exact b_Store_isNode_14 cx _ _ _ h hP hS (lv_sub hl [] rfl)
    · replace h := i_neg hc h
      refine lv_iconst (v := 1) hx hb d_Store_isNode_10 (by decide) ?_
      refine lv_goto hx hb d_Store_isNode_11 rfl ?_
      obtain rfl := Option.some.inj h
      exact gg_zret hx hb hr hlk rfl hK hP hS d_Store_isNode_15
abbrev b_Store_skew : ByteArray := prog_1_method_3_code
def y_Store_skew : MethodName := ⟨"StampedStore", "skew", "(II)Z"⟩
def w_Store_skew : List Cond := .code y_Store_skew b_Store_skew 3 (some .boolean) :: w_all
theorem d_Store_skew_0 : decode b_Store_skew 0 = .ok (.iload_n 1, 1) := by decide +kernel
theorem d_Store_skew_1 : decode b_Store_skew 1 = .ok (.invokestatic 38, 3) := by decide +kernel
theorem d_Store_skew_4 : decode b_Store_skew 4 = .ok (.ifCond .eq 26, 3) := by decide +kernel
theorem d_Store_skew_7 : decode b_Store_skew 7 = .ok (.iload_n 2, 1) := by decide +kernel
theorem d_Store_skew_8 : decode b_Store_skew 8 = .ok (.aload_n 0, 1) := by decide +kernel
theorem d_Store_skew_9 : decode b_Store_skew 9 = .ok (.getfield 26, 3) := by decide +kernel
theorem d_Store_skew_12 : decode b_Store_skew 12 = .ok (.getfield 42, 3) := by decide +kernel
theorem d_Store_skew_15 : decode b_Store_skew 15 = .ok (.ineg, 1) := by decide +kernel
theorem d_Store_skew_16 : decode b_Store_skew 16 = .ok (.if_icmp .lt 14, 3) := by decide +kernel
theorem d_Store_skew_19 : decode b_Store_skew 19 = .ok (.iload_n 2, 1) := by decide +kernel
theorem d_Store_skew_20 : decode b_Store_skew 20 = .ok (.aload_n 0, 1) := by decide +kernel
theorem d_Store_skew_21 : decode b_Store_skew 21 = .ok (.getfield 26, 3) := by decide +kernel
theorem d_Store_skew_24 : decode b_Store_skew 24 = .ok (.getfield 42, 3) := by decide +kernel
theorem d_Store_skew_27 : decode b_Store_skew 27 = .ok (.if_icmp .le 5, 3) := by decide +kernel
theorem d_Store_skew_30 : decode b_Store_skew 30 = .ok (.iconst 0, 1) := by decide +kernel
theorem d_Store_skew_31 : decode b_Store_skew 31 = .ok (.ireturn, 1) := by decide +kernel
theorem d_Store_skew_32 : decode b_Store_skew 32 = .ok (.aload_n 0, 1) := by decide +kernel
theorem d_Store_skew_33 : decode b_Store_skew 33 = .ok (.getfield 11, 3) := by decide +kernel
theorem d_Store_skew_36 : decode b_Store_skew 36 = .ok (.iload_n 1, 1) := by decide +kernel
theorem d_Store_skew_37 : decode b_Store_skew 37 = .ok (.aaload, 1) := by decide +kernel
theorem d_Store_skew_38 : decode b_Store_skew 38 = .ok (.iload_n 2, 1) := by decide +kernel
theorem d_Store_skew_39 : decode b_Store_skew 39 = .ok (.putfield 45, 3) := by decide +kernel
theorem d_Store_skew_42 : decode b_Store_skew 42 = .ok (.iconst 1, 1) := by decide +kernel
theorem d_Store_skew_43 : decode b_Store_skew 43 = .ok (.ireturn, 1) := by decide +kernel
def B_Store_skew_30 (R : Nat → Nat → Nat) (I : St) : Option (Int32 × St) := some ((0 : Int32), I)
set_option maxHeartbeats 4000000 in
set_option maxRecDepth 100000 in
theorem b_Store_skew_30 {p : Program} {l : Launch} {e : Env} {s : State} {m : MethodId} {args : Array Value} {below : List Frame} {meth : Method} {c : Code} {g : Sg} {R : Nat → Nat → Nat} {J : St} {v : Int32} (cx : Cx p s m args meth c g R R_Store b_Store_skew 3 (some .boolean)) : ∀ (I : St) (H : Heap) (locs : List Loc) (ls : Array Slot), B_Store_skew_30 R I = some (v, J) → wW g R I H → va_S (· ∈ g.L) s.heap H locs → lv_has ls 3 [] → W p l e { frames := 1, cells := 0, slots := 0, locals := 20 } s m args below meth c H locs 0 0 (MQ below (Qi g R v J) args s 0 0 (· ∈ g.L)) (F0 m 30 ls []) := by
  have ⟨hx, hb, hml, hr, hlk, hown, hall, hT, hK⟩ := cx
  intro I H locs ls h hP hS hl
  unfold B_Store_skew_30 at h
  refine lv_iconst (v := 0) hx hb d_Store_skew_30 (by decide) ?_
  obtain ⟨rfl, rfl⟩ := rt_el h
  exact gg_zret hx hb hr hlk rfl hK hP hS d_Store_skew_31
def F_Store_skew (R : Nat → Nat → Nat) (a0 : Nat) (x1 : Int32) (x2 : Int32) (I : St) : Option (Int32 × St) := (ob (F_Store_isNode R x1 I) (fun v1 => (if v1 = 0 then B_Store_skew_30 R I else (if x2 < (-(I (R a0 0) 0)) then B_Store_skew_30 R I else (if x2 ≤ (I (R a0 0) 0) then (chk x1 6 ((ap (up2 I (R (R a0 1) x1.toNatClampNeg) 5 x2) (fun I39 => some ((1 : Int32), I39))))) else B_Store_skew_30 R I)))))
set_option maxHeartbeats 4000000 in
set_option maxRecDepth 100000 in
theorem c_Store_skew (l : Launch) {g : Sg} {R : Nat → Nat → Nat} (hT : Ty g R) {a0 : Nat} (o0 : okA g 4 0 a0) {x1 : Int32} {x2 : Int32} {I : St} {J : St} {v : Int32} (h : F_Store_skew R a0 x1 x2 I = some (v, J)) : Cti l g R y_Store_skew w_Store_skew 1 20 [.ref a0, .int x1, .int x2] I v J := by
  unfold Cti
  refine Met.ofW (cc := b_Store_skew) (maxL := 3) (ret := (some .boolean)) (by decide) rfl ?_
  intro p e s m args below meth c s₁ B hml hv
  obtain ⟨rfl, hP, hK⟩ := hv
  have hts := atoms_spec (ws := w_Store_skew) B.pre
  have hall : ∀ w ∈ w_all, w.before _ s = true := fun w hw => hts w (List.mem_cons_of_mem _ hw)
  have hown : s.vm.findClass R_Store = some m.cls := findClass_of_methodNamed B.named
  have hx := B.exec
  have hb := B.bytes
  have hr := B.returns
  have hlk := B.notSynchronized
  have cx : Cx p s m _ meth c g R R_Store b_Store_skew 3 (some .boolean) := ⟨hx, hb, hml, hr, hlk, hown, hall, hT, hK⟩
  have hl := lv_entry ([.ref a0, .int x1, .int x2]) (n := 3) (Nat.le_of_ble_eq_true rfl)
  rw [lg_entry_eq]
  generalize (lg_sl ([.ref a0, .int x1, .int x2]) ++ List.replicate (3 - (lg_sl ([.ref a0, .int x1, .int x2])).length) Slot.unset).toArray = ls at hl ⊢
  have hl : lv_has ls 3 [(0, .ref a0), (1, .int x1), (2, .int x2)] := hl
  have hS : va_S (· ∈ g.L) s.heap s.heap [] := va_S.rf
  unfold F_Store_skew at h
  refine lv_iload_n hx hb d_Store_skew_0 rfl (lv_at hl 1 rfl) ?_
  obtain ⟨v1, e1, h⟩ := ob_el h
  refine gg_Si (As := [.int x1]) (rest := []) ⟨hx, hb, hml, hown, hall⟩ (c_Store_isNode l hT e1) (cwS 1 hall (gS m_4 m_5 m_6 m_3) rfl rfl rfl (by decide +kernel) ⟨Nat.le_of_ble_eq_true rfl, Nat.le_of_ble_eq_true rfl⟩) hK hP hS rfl hl.1 rfl (Nat.le_of_ble_eq_true rfl) d_Store_skew_1 (fun H locs hP hS => ?_)
  refine lv_if_eq hx hb d_Store_skew_4 rfl (fun hc => ?_) (fun hc => ?_)
  · replace h := i_pos hc h
    exact b_Store_skew_30 cx _ _ _ _ h hP hS (lv_sub hl [] rfl)
  · replace h := i_neg hc h
    refine lv_iload_n hx hb d_Store_skew_7 rfl (lv_at hl 2 rfl) ?_
    refine lv_aload_n hx hb d_Store_skew_8 rfl (lv_at hl 0 rfl) ?_
    refine gg_get (C := R_Store) (T := F_Store) (N := 4) (ci := 4) hx hb hall i_Store hown hK hP o0.1 (wE_4 o0.2) rfl 0 (by decide) (hall _ m_0) (fun _ h9 => h9) rfl d_Store_skew_9 ?_
    have o_9 : okA g 0 0 (R a0 0) := ty_Store_0 hT o0
    refine gg_get (C := R_Clock) (T := F_Clock) (N := 2) (ci := 0) hx hb hall i_Clock hown hK hP o_9.1 (wE_0 o_9.2) rfl 0 (by decide) (hall _ m_7) (fun _ h9 => h9) rfl d_Store_skew_12 ?_
    refine lv_ineg hx hb d_Store_skew_15 ?_
    refine lv_icmp_lt hx hb d_Store_skew_16 rfl (fun hc => ?_) (fun hc => ?_)
    · replace h := i_pos hc h
      exact b_Store_skew_30 cx _ _ _ _ h hP hS (lv_sub hl [] rfl)
    · replace h := i_neg hc h
      refine lv_iload_n hx hb d_Store_skew_19 rfl (lv_at hl 2 rfl) ?_
      refine lv_aload_n hx hb d_Store_skew_20 rfl (lv_at hl 0 rfl) ?_
      refine gg_get (C := R_Store) (T := F_Store) (N := 4) (ci := 4) hx hb hall i_Store hown hK hP o0.1 (wE_4 o0.2) rfl 0 (by decide) (hall _ m_0) (fun _ h9 => h9) rfl d_Store_skew_21 ?_
      have o_21 : okA g 0 0 (R a0 0) := ty_Store_0 hT o0
      refine gg_get (C := R_Clock) (T := F_Clock) (N := 2) (ci := 0) hx hb hall i_Clock hown hK hP o_21.1 (wE_0 o_21.2) rfl 0 (by decide) (hall _ m_7) (fun _ h9 => h9) rfl d_Store_skew_24 ?_
      refine lv_icmp_le hx hb d_Store_skew_27 rfl (fun hc => ?_) (fun hc => ?_)
      · replace h := i_pos hc h
        refine lv_aload_n hx hb d_Store_skew_32 rfl (lv_at hl 0 rfl) ?_
        refine gg_get (C := R_Store) (T := F_Store) (N := 4) (ci := 4) hx hb hall i_Store hown hK hP o0.1 (wE_4 o0.2) rfl 1 (by decide) (hall _ m_8) (fun _ h9 => h9) rfl d_Store_skew_33 ?_
        have o_33 : okA g 8 6 (R a0 1) := ty_Store_1 hT o0
        refine lv_iload_n hx hb d_Store_skew_36 rfl (lv_at hl 1 rfl) ?_
        obtain ⟨hi37, h⟩ := chk_el h
        refine gg_nald hx hb hK hP o_33 hi37 d_Store_skew_37 ?_
        have o_37 : okA g 2 0 (R (R a0 1) x1.toNatClampNeg) := ty_8 hT o_33 _
        refine lv_iload_n hx hb d_Store_skew_38 rfl (lv_at hl 2 rfl) ?_
        refine gg_put (C := R_Node) (T := F_Node) (N := 10) (ci := 2) (ty := .int) hx hb hall i_Node t_Node t_Node_ok n_Node hown hT.1 hK hP hS o_37.1 (wE_2 o_37.2) rfl 5 (by decide) (hall _ m_9) (fun _ h9 => h9) rfl (by decide +kernel) rfl rfl (Nat.le_of_ble_eq_true rfl) (ws_Node_5 o_37.2) d_Store_skew_39 (fun I39 H locs e39 hP hS => ?_)
        replace h := ap_el e39 h
        refine lv_iconst (v := 1) hx hb d_Store_skew_42 (by decide) ?_
        obtain ⟨rfl, rfl⟩ := rt_el h
        exact gg_zret hx hb hr hlk rfl hK hP hS d_Store_skew_43
      · replace h := i_neg hc h
        exact b_Store_skew_30 cx _ _ _ _ h hP hS (lv_sub hl [] rfl)
abbrev b_Store_crash : ByteArray := prog_1_method_4_code
def y_Store_crash : MethodName := ⟨"StampedStore", "crash", "(I)Z"⟩
def w_Store_crash : List Cond := .code y_Store_crash b_Store_crash 2 (some .boolean) :: w_all
theorem d_Store_crash_0 : decode b_Store_crash 0 = .ok (.iload_n 1, 1) := by decide +kernel
theorem d_Store_crash_1 : decode b_Store_crash 1 = .ok (.invokestatic 38, 3) := by decide +kernel
theorem d_Store_crash_4 : decode b_Store_crash 4 = .ok (.ifCond .eq 15, 3) := by decide +kernel
theorem d_Store_crash_7 : decode b_Store_crash 7 = .ok (.aload_n 0, 1) := by decide +kernel
theorem d_Store_crash_8 : decode b_Store_crash 8 = .ok (.getfield 11, 3) := by decide +kernel
theorem d_Store_crash_11 : decode b_Store_crash 11 = .ok (.iload_n 1, 1) := by decide +kernel
theorem d_Store_crash_12 : decode b_Store_crash 12 = .ok (.aaload, 1) := by decide +kernel
theorem d_Store_crash_13 : decode b_Store_crash 13 = .ok (.getfield 48, 3) := by decide +kernel
theorem d_Store_crash_16 : decode b_Store_crash 16 = .ok (.ifCond .ne 5, 3) := by decide +kernel
theorem d_Store_crash_19 : decode b_Store_crash 19 = .ok (.iconst 0, 1) := by decide +kernel
theorem d_Store_crash_20 : decode b_Store_crash 20 = .ok (.ireturn, 1) := by decide +kernel
theorem d_Store_crash_21 : decode b_Store_crash 21 = .ok (.aload_n 0, 1) := by decide +kernel
theorem d_Store_crash_22 : decode b_Store_crash 22 = .ok (.getfield 11, 3) := by decide +kernel
theorem d_Store_crash_25 : decode b_Store_crash 25 = .ok (.iload_n 1, 1) := by decide +kernel
theorem d_Store_crash_26 : decode b_Store_crash 26 = .ok (.aaload, 1) := by decide +kernel
theorem d_Store_crash_27 : decode b_Store_crash 27 = .ok (.iconst 0, 1) := by decide +kernel
theorem d_Store_crash_28 : decode b_Store_crash 28 = .ok (.putfield 48, 3) := by decide +kernel
theorem d_Store_crash_31 : decode b_Store_crash 31 = .ok (.aload_n 0, 1) := by decide +kernel
theorem d_Store_crash_32 : decode b_Store_crash 32 = .ok (.getfield 11, 3) := by decide +kernel
theorem d_Store_crash_35 : decode b_Store_crash 35 = .ok (.iload_n 1, 1) := by decide +kernel
theorem d_Store_crash_36 : decode b_Store_crash 36 = .ok (.aaload, 1) := by decide +kernel
theorem d_Store_crash_37 : decode b_Store_crash 37 = .ok (.iconst 0, 1) := by decide +kernel
theorem d_Store_crash_38 : decode b_Store_crash 38 = .ok (.putfield 52, 3) := by decide +kernel
theorem d_Store_crash_41 : decode b_Store_crash 41 = .ok (.iconst 1, 1) := by decide +kernel
theorem d_Store_crash_42 : decode b_Store_crash 42 = .ok (.ireturn, 1) := by decide +kernel
def B_Store_crash_19 (R : Nat → Nat → Nat) (I : St) : Option (Int32 × St) := some ((0 : Int32), I)
set_option maxHeartbeats 4000000 in
set_option maxRecDepth 100000 in
theorem b_Store_crash_19 {p : Program} {l : Launch} {e : Env} {s : State} {m : MethodId} {args : Array Value} {below : List Frame} {meth : Method} {c : Code} {g : Sg} {R : Nat → Nat → Nat} {J : St} {v : Int32} (cx : Cx p s m args meth c g R R_Store b_Store_crash 2 (some .boolean)) : ∀ (I : St) (H : Heap) (locs : List Loc) (ls : Array Slot), B_Store_crash_19 R I = some (v, J) → wW g R I H → va_S (· ∈ g.L) s.heap H locs → lv_has ls 2 [] → W p l e { frames := 1, cells := 0, slots := 0, locals := 20 } s m args below meth c H locs 0 0 (MQ below (Qi g R v J) args s 0 0 (· ∈ g.L)) (F0 m 19 ls []) := by
  have ⟨hx, hb, hml, hr, hlk, hown, hall, hT, hK⟩ := cx
  intro I H locs ls h hP hS hl
  unfold B_Store_crash_19 at h
  refine lv_iconst (v := 0) hx hb d_Store_crash_19 (by decide) ?_
  obtain ⟨rfl, rfl⟩ := rt_el h
  exact gg_zret hx hb hr hlk rfl hK hP hS d_Store_crash_20
def F_Store_crash (R : Nat → Nat → Nat) (a0 : Nat) (x1 : Int32) (I : St) : Option (Int32 × St) := (ob (F_Store_isNode R x1 I) (fun v1 => (if v1 = 0 then B_Store_crash_19 R I else (chk x1 6 ((if (I (R (R a0 1) x1.toNatClampNeg) 3) = 0 then B_Store_crash_19 R I else (chk x1 6 ((ap (up2 I (R (R a0 1) x1.toNatClampNeg) 3 (0 : Int32)) (fun I28 => (chk x1 6 ((ap (up2 I28 (R (R a0 1) x1.toNatClampNeg) 4 (0 : Int32)) (fun I38 => some ((1 : Int32), I38)))))))))))))))
set_option maxHeartbeats 4000000 in
set_option maxRecDepth 100000 in
theorem c_Store_crash (l : Launch) {g : Sg} {R : Nat → Nat → Nat} (hT : Ty g R) {a0 : Nat} (o0 : okA g 4 0 a0) {x1 : Int32} {I : St} {J : St} {v : Int32} (h : F_Store_crash R a0 x1 I = some (v, J)) : Cti l g R y_Store_crash w_Store_crash 1 20 [.ref a0, .int x1] I v J := by
  unfold Cti
  refine Met.ofW (cc := b_Store_crash) (maxL := 2) (ret := (some .boolean)) (by decide) rfl ?_
  intro p e s m args below meth c s₁ B hml hv
  obtain ⟨rfl, hP, hK⟩ := hv
  have hts := atoms_spec (ws := w_Store_crash) B.pre
  have hall : ∀ w ∈ w_all, w.before _ s = true := fun w hw => hts w (List.mem_cons_of_mem _ hw)
  have hown : s.vm.findClass R_Store = some m.cls := findClass_of_methodNamed B.named
  have hx := B.exec
  have hb := B.bytes
  have hr := B.returns
  have hlk := B.notSynchronized
  have cx : Cx p s m _ meth c g R R_Store b_Store_crash 2 (some .boolean) := ⟨hx, hb, hml, hr, hlk, hown, hall, hT, hK⟩
  have hl := lv_entry ([.ref a0, .int x1]) (n := 2) (Nat.le_of_ble_eq_true rfl)
  rw [lg_entry_eq]
  generalize (lg_sl ([.ref a0, .int x1]) ++ List.replicate (2 - (lg_sl ([.ref a0, .int x1])).length) Slot.unset).toArray = ls at hl ⊢
  have hl : lv_has ls 2 [(0, .ref a0), (1, .int x1)] := hl
  have hS : va_S (· ∈ g.L) s.heap s.heap [] := va_S.rf
  unfold F_Store_crash at h
  refine lv_iload_n hx hb d_Store_crash_0 rfl (lv_at hl 1 rfl) ?_
  obtain ⟨v1, e1, h⟩ := ob_el h
  refine gg_Si (As := [.int x1]) (rest := []) ⟨hx, hb, hml, hown, hall⟩ (c_Store_isNode l hT e1) (cwS 1 hall (gS m_4 m_5 m_6 m_3) rfl rfl rfl (by decide +kernel) ⟨Nat.le_of_ble_eq_true rfl, Nat.le_of_ble_eq_true rfl⟩) hK hP hS rfl hl.1 rfl (Nat.le_of_ble_eq_true rfl) d_Store_crash_1 (fun H locs hP hS => ?_)
  refine lv_if_eq hx hb d_Store_crash_4 rfl (fun hc => ?_) (fun hc => ?_)
  · replace h := i_pos hc h
    exact b_Store_crash_19 cx _ _ _ _ h hP hS (lv_sub hl [] rfl)
  · replace h := i_neg hc h
    refine lv_aload_n hx hb d_Store_crash_7 rfl (lv_at hl 0 rfl) ?_
    refine gg_get (C := R_Store) (T := F_Store) (N := 4) (ci := 4) hx hb hall i_Store hown hK hP o0.1 (wE_4 o0.2) rfl 1 (by decide) (hall _ m_8) (fun _ h9 => h9) rfl d_Store_crash_8 ?_
    have o_8 : okA g 8 6 (R a0 1) := ty_Store_1 hT o0
    refine lv_iload_n hx hb d_Store_crash_11 rfl (lv_at hl 1 rfl) ?_
    obtain ⟨hi12, h⟩ := chk_el h
    refine gg_nald hx hb hK hP o_8 hi12 d_Store_crash_12 ?_
    have o_12 : okA g 2 0 (R (R a0 1) x1.toNatClampNeg) := ty_8 hT o_8 _
    refine gg_get (C := R_Node) (T := F_Node) (N := 10) (ci := 2) hx hb hall i_Node hown hK hP o_12.1 (wE_2 o_12.2) rfl 3 (by decide) (hall _ m_11) (fun _ h9 => h9) rfl d_Store_crash_13 ?_
    refine lv_if_ne hx hb d_Store_crash_16 rfl (fun hc => ?_) (fun hc => ?_)
    · replace h := i_neg hc h
      refine lv_aload_n hx hb d_Store_crash_21 rfl (lv_at hl 0 rfl) ?_
      refine gg_get (C := R_Store) (T := F_Store) (N := 4) (ci := 4) hx hb hall i_Store hown hK hP o0.1 (wE_4 o0.2) rfl 1 (by decide) (hall _ m_8) (fun _ h9 => h9) rfl d_Store_crash_22 ?_
      have o_22 : okA g 8 6 (R a0 1) := ty_Store_1 hT o0
      refine lv_iload_n hx hb d_Store_crash_25 rfl (lv_at hl 1 rfl) ?_
      obtain ⟨hi26, h⟩ := chk_el h
      refine gg_nald hx hb hK hP o_22 hi26 d_Store_crash_26 ?_
      have o_26 : okA g 2 0 (R (R a0 1) x1.toNatClampNeg) := ty_8 hT o_22 _
      refine lv_iconst (v := 0) hx hb d_Store_crash_27 (by decide) ?_
      refine gg_put (C := R_Node) (T := F_Node) (N := 10) (ci := 2) (ty := .boolean) hx hb hall i_Node t_Node t_Node_ok n_Node hown hT.1 hK hP hS o_26.1 (wE_2 o_26.2) rfl 3 (by decide) (hall _ m_11) (fun _ h9 => h9) rfl (by decide +kernel) rfl rfl (Nat.le_of_ble_eq_true rfl) (ws_Node_3 o_26.2) d_Store_crash_28 (fun I28 H locs e28 hP hS => ?_)
      replace h := ap_el e28 h
      refine lv_aload_n hx hb d_Store_crash_31 rfl (lv_at hl 0 rfl) ?_
      refine gg_get (C := R_Store) (T := F_Store) (N := 4) (ci := 4) hx hb hall i_Store hown hK hP o0.1 (wE_4 o0.2) rfl 1 (by decide) (hall _ m_8) (fun _ h9 => h9) rfl d_Store_crash_32 ?_
      have o_32 : okA g 8 6 (R a0 1) := ty_Store_1 hT o0
      refine lv_iload_n hx hb d_Store_crash_35 rfl (lv_at hl 1 rfl) ?_
      obtain ⟨hi36, h⟩ := chk_el h
      refine gg_nald hx hb hK hP o_32 hi36 d_Store_crash_36 ?_
      have o_36 : okA g 2 0 (R (R a0 1) x1.toNatClampNeg) := ty_8 hT o_32 _
      refine lv_iconst (v := 0) hx hb d_Store_crash_37 (by decide) ?_
      refine gg_put (C := R_Node) (T := F_Node) (N := 10) (ci := 2) (ty := .boolean) hx hb hall i_Node t_Node t_Node_ok n_Node hown hT.1 hK hP hS o_36.1 (wE_2 o_36.2) rfl 4 (by decide) (hall _ m_12) (fun _ h9 => h9) rfl (by decide +kernel) rfl rfl (Nat.le_of_ble_eq_true rfl) (ws_Node_4 o_36.2) d_Store_crash_38 (fun I38 H locs e38 hP hS => ?_)
      replace h := ap_el e38 h
      refine lv_iconst (v := 1) hx hb d_Store_crash_41 (by decide) ?_
      obtain ⟨rfl, rfl⟩ := rt_el h
      exact gg_zret hx hb hr hlk rfl hK hP hS d_Store_crash_42
    · replace h := i_pos hc h
      exact b_Store_crash_19 cx _ _ _ _ h hP hS (lv_sub hl [] rfl)
abbrev b_Store_recover : ByteArray := prog_1_method_5_code
def y_Store_recover : MethodName := ⟨"StampedStore", "recover", "(I)Z"⟩
def w_Store_recover : List Cond := .code y_Store_recover b_Store_recover 2 (some .boolean) :: w_all
theorem d_Store_recover_0 : decode b_Store_recover 0 = .ok (.iload_n 1, 1) := by decide +kernel
theorem d_Store_recover_1 : decode b_Store_recover 1 = .ok (.invokestatic 38, 3) := by decide +kernel
theorem d_Store_recover_4 : decode b_Store_recover 4 = .ok (.ifCond .eq 15, 3) := by decide +kernel
theorem d_Store_recover_7 : decode b_Store_recover 7 = .ok (.aload_n 0, 1) := by decide +kernel
theorem d_Store_recover_8 : decode b_Store_recover 8 = .ok (.getfield 11, 3) := by decide +kernel
theorem d_Store_recover_11 : decode b_Store_recover 11 = .ok (.iload_n 1, 1) := by decide +kernel
theorem d_Store_recover_12 : decode b_Store_recover 12 = .ok (.aaload, 1) := by decide +kernel
theorem d_Store_recover_13 : decode b_Store_recover 13 = .ok (.getfield 48, 3) := by decide +kernel
theorem d_Store_recover_16 : decode b_Store_recover 16 = .ok (.ifCond .eq 5, 3) := by decide +kernel
theorem d_Store_recover_19 : decode b_Store_recover 19 = .ok (.iconst 0, 1) := by decide +kernel
theorem d_Store_recover_20 : decode b_Store_recover 20 = .ok (.ireturn, 1) := by decide +kernel
theorem d_Store_recover_21 : decode b_Store_recover 21 = .ok (.aload_n 0, 1) := by decide +kernel
theorem d_Store_recover_22 : decode b_Store_recover 22 = .ok (.getfield 11, 3) := by decide +kernel
theorem d_Store_recover_25 : decode b_Store_recover 25 = .ok (.iload_n 1, 1) := by decide +kernel
theorem d_Store_recover_26 : decode b_Store_recover 26 = .ok (.aaload, 1) := by decide +kernel
theorem d_Store_recover_27 : decode b_Store_recover 27 = .ok (.iconst 1, 1) := by decide +kernel
theorem d_Store_recover_28 : decode b_Store_recover 28 = .ok (.putfield 48, 3) := by decide +kernel
theorem d_Store_recover_31 : decode b_Store_recover 31 = .ok (.iconst 1, 1) := by decide +kernel
theorem d_Store_recover_32 : decode b_Store_recover 32 = .ok (.ireturn, 1) := by decide +kernel
def B_Store_recover_19 (R : Nat → Nat → Nat) (I : St) : Option (Int32 × St) := some ((0 : Int32), I)
set_option maxHeartbeats 4000000 in
set_option maxRecDepth 100000 in
theorem b_Store_recover_19 {p : Program} {l : Launch} {e : Env} {s : State} {m : MethodId} {args : Array Value} {below : List Frame} {meth : Method} {c : Code} {g : Sg} {R : Nat → Nat → Nat} {J : St} {v : Int32} (cx : Cx p s m args meth c g R R_Store b_Store_recover 2 (some .boolean)) : ∀ (I : St) (H : Heap) (locs : List Loc) (ls : Array Slot), B_Store_recover_19 R I = some (v, J) → wW g R I H → va_S (· ∈ g.L) s.heap H locs → lv_has ls 2 [] → W p l e { frames := 1, cells := 0, slots := 0, locals := 20 } s m args below meth c H locs 0 0 (MQ below (Qi g R v J) args s 0 0 (· ∈ g.L)) (F0 m 19 ls []) := by
  have ⟨hx, hb, hml, hr, hlk, hown, hall, hT, hK⟩ := cx
  intro I H locs ls h hP hS hl
  unfold B_Store_recover_19 at h
  refine lv_iconst (v := 0) hx hb d_Store_recover_19 (by decide) ?_
  obtain ⟨rfl, rfl⟩ := rt_el h
  exact gg_zret hx hb hr hlk rfl hK hP hS d_Store_recover_20
def F_Store_recover (R : Nat → Nat → Nat) (a0 : Nat) (x1 : Int32) (I : St) : Option (Int32 × St) := (ob (F_Store_isNode R x1 I) (fun v1 => (if v1 = 0 then B_Store_recover_19 R I else (chk x1 6 ((if (I (R (R a0 1) x1.toNatClampNeg) 3) = 0 then (chk x1 6 ((ap (up2 I (R (R a0 1) x1.toNatClampNeg) 3 (1 : Int32)) (fun I28 => some ((1 : Int32), I28))))) else B_Store_recover_19 R I))))))
set_option maxHeartbeats 4000000 in
set_option maxRecDepth 100000 in
theorem c_Store_recover (l : Launch) {g : Sg} {R : Nat → Nat → Nat} (hT : Ty g R) {a0 : Nat} (o0 : okA g 4 0 a0) {x1 : Int32} {I : St} {J : St} {v : Int32} (h : F_Store_recover R a0 x1 I = some (v, J)) : Cti l g R y_Store_recover w_Store_recover 1 20 [.ref a0, .int x1] I v J := by
  unfold Cti
  refine Met.ofW (cc := b_Store_recover) (maxL := 2) (ret := (some .boolean)) (by decide) rfl ?_
  intro p e s m args below meth c s₁ B hml hv
  obtain ⟨rfl, hP, hK⟩ := hv
  have hts := atoms_spec (ws := w_Store_recover) B.pre
  have hall : ∀ w ∈ w_all, w.before _ s = true := fun w hw => hts w (List.mem_cons_of_mem _ hw)
  have hown : s.vm.findClass R_Store = some m.cls := findClass_of_methodNamed B.named
  have hx := B.exec
  have hb := B.bytes
  have hr := B.returns
  have hlk := B.notSynchronized
  have cx : Cx p s m _ meth c g R R_Store b_Store_recover 2 (some .boolean) := ⟨hx, hb, hml, hr, hlk, hown, hall, hT, hK⟩
  have hl := lv_entry ([.ref a0, .int x1]) (n := 2) (Nat.le_of_ble_eq_true rfl)
  rw [lg_entry_eq]
  generalize (lg_sl ([.ref a0, .int x1]) ++ List.replicate (2 - (lg_sl ([.ref a0, .int x1])).length) Slot.unset).toArray = ls at hl ⊢
  have hl : lv_has ls 2 [(0, .ref a0), (1, .int x1)] := hl
  have hS : va_S (· ∈ g.L) s.heap s.heap [] := va_S.rf
  unfold F_Store_recover at h
  refine lv_iload_n hx hb d_Store_recover_0 rfl (lv_at hl 1 rfl) ?_
  obtain ⟨v1, e1, h⟩ := ob_el h
  refine gg_Si (As := [.int x1]) (rest := []) ⟨hx, hb, hml, hown, hall⟩ (c_Store_isNode l hT e1) (cwS 1 hall (gS m_4 m_5 m_6 m_3) rfl rfl rfl (by decide +kernel) ⟨Nat.le_of_ble_eq_true rfl, Nat.le_of_ble_eq_true rfl⟩) hK hP hS rfl hl.1 rfl (Nat.le_of_ble_eq_true rfl) d_Store_recover_1 (fun H locs hP hS => ?_)
  refine lv_if_eq hx hb d_Store_recover_4 rfl (fun hc => ?_) (fun hc => ?_)
  · replace h := i_pos hc h
    exact b_Store_recover_19 cx _ _ _ _ h hP hS (lv_sub hl [] rfl)
  · replace h := i_neg hc h
    refine lv_aload_n hx hb d_Store_recover_7 rfl (lv_at hl 0 rfl) ?_
    refine gg_get (C := R_Store) (T := F_Store) (N := 4) (ci := 4) hx hb hall i_Store hown hK hP o0.1 (wE_4 o0.2) rfl 1 (by decide) (hall _ m_8) (fun _ h9 => h9) rfl d_Store_recover_8 ?_
    have o_8 : okA g 8 6 (R a0 1) := ty_Store_1 hT o0
    refine lv_iload_n hx hb d_Store_recover_11 rfl (lv_at hl 1 rfl) ?_
    obtain ⟨hi12, h⟩ := chk_el h
    refine gg_nald hx hb hK hP o_8 hi12 d_Store_recover_12 ?_
    have o_12 : okA g 2 0 (R (R a0 1) x1.toNatClampNeg) := ty_8 hT o_8 _
    refine gg_get (C := R_Node) (T := F_Node) (N := 10) (ci := 2) hx hb hall i_Node hown hK hP o_12.1 (wE_2 o_12.2) rfl 3 (by decide) (hall _ m_11) (fun _ h9 => h9) rfl d_Store_recover_13 ?_
    refine lv_if_eq hx hb d_Store_recover_16 rfl (fun hc => ?_) (fun hc => ?_)
    · replace h := i_pos hc h
      refine lv_aload_n hx hb d_Store_recover_21 rfl (lv_at hl 0 rfl) ?_
      refine gg_get (C := R_Store) (T := F_Store) (N := 4) (ci := 4) hx hb hall i_Store hown hK hP o0.1 (wE_4 o0.2) rfl 1 (by decide) (hall _ m_8) (fun _ h9 => h9) rfl d_Store_recover_22 ?_
      have o_22 : okA g 8 6 (R a0 1) := ty_Store_1 hT o0
      refine lv_iload_n hx hb d_Store_recover_25 rfl (lv_at hl 1 rfl) ?_
      obtain ⟨hi26, h⟩ := chk_el h
      refine gg_nald hx hb hK hP o_22 hi26 d_Store_recover_26 ?_
      have o_26 : okA g 2 0 (R (R a0 1) x1.toNatClampNeg) := ty_8 hT o_22 _
      refine lv_iconst (v := 1) hx hb d_Store_recover_27 (by decide) ?_
      refine gg_put (C := R_Node) (T := F_Node) (N := 10) (ci := 2) (ty := .boolean) hx hb hall i_Node t_Node t_Node_ok n_Node hown hT.1 hK hP hS o_26.1 (wE_2 o_26.2) rfl 3 (by decide) (hall _ m_11) (fun _ h9 => h9) rfl (by decide +kernel) rfl rfl (Nat.le_of_ble_eq_true rfl) (ws_Node_3 o_26.2) d_Store_recover_28 (fun I28 H locs e28 hP hS => ?_)
      replace h := ap_el e28 h
      refine lv_iconst (v := 1) hx hb d_Store_recover_31 (by decide) ?_
      obtain ⟨rfl, rfl⟩ := rt_el h
      exact gg_zret hx hb hr hlk rfl hK hP hS d_Store_recover_32
    · replace h := i_neg hc h
      exact b_Store_recover_19 cx _ _ _ _ h hP hS (lv_sub hl [] rfl)
abbrev b_Math_floorMod : ByteArray := prog_8_method_50_code
def y_Math_floorMod : MethodName := ⟨"java/lang/Math", "floorMod", "(II)I"⟩
def w_Math_floorMod : List Cond := .code y_Math_floorMod b_Math_floorMod 3 (some .int) :: w_all
theorem d_Math_floorMod_0 : decode b_Math_floorMod 0 = .ok (.iload_n 0, 1) := by decide +kernel
theorem d_Math_floorMod_1 : decode b_Math_floorMod 1 = .ok (.iload_n 1, 1) := by decide +kernel
theorem d_Math_floorMod_2 : decode b_Math_floorMod 2 = .ok (.irem, 1) := by decide +kernel
theorem d_Math_floorMod_3 : decode b_Math_floorMod 3 = .ok (.istore_n 2, 1) := by decide +kernel
theorem d_Math_floorMod_4 : decode b_Math_floorMod 4 = .ok (.iload_n 0, 1) := by decide +kernel
theorem d_Math_floorMod_5 : decode b_Math_floorMod 5 = .ok (.iload_n 1, 1) := by decide +kernel
theorem d_Math_floorMod_6 : decode b_Math_floorMod 6 = .ok (.ixor, 1) := by decide +kernel
theorem d_Math_floorMod_7 : decode b_Math_floorMod 7 = .ok (.ifCond .ge 11, 3) := by decide +kernel
theorem d_Math_floorMod_10 : decode b_Math_floorMod 10 = .ok (.iload_n 2, 1) := by decide +kernel
theorem d_Math_floorMod_11 : decode b_Math_floorMod 11 = .ok (.ifCond .eq 7, 3) := by decide +kernel
theorem d_Math_floorMod_14 : decode b_Math_floorMod 14 = .ok (.iload_n 2, 1) := by decide +kernel
theorem d_Math_floorMod_15 : decode b_Math_floorMod 15 = .ok (.iload_n 1, 1) := by decide +kernel
theorem d_Math_floorMod_16 : decode b_Math_floorMod 16 = .ok (.iadd, 1) := by decide +kernel
theorem d_Math_floorMod_17 : decode b_Math_floorMod 17 = .ok (.ireturn, 1) := by decide +kernel
theorem d_Math_floorMod_18 : decode b_Math_floorMod 18 = .ok (.iload_n 2, 1) := by decide +kernel
theorem d_Math_floorMod_19 : decode b_Math_floorMod 19 = .ok (.ireturn, 1) := by decide +kernel
def B_Math_floorMod_18 (R : Nat → Nat → Nat) (I : St) (x2 : Int32) : Option Int32 := some x2
set_option maxHeartbeats 4000000 in
set_option maxRecDepth 100000 in
theorem b_Math_floorMod_18 {p : Program} {l : Launch} {e : Env} {s : State} {m : MethodId} {args : Array Value} {below : List Frame} {meth : Method} {c : Code} {g : Sg} {R : Nat → Nat → Nat} {I : St} {v : Int32} (cx : Cx p s m args meth c g R R_Math b_Math_floorMod 3 (some .int)) : ∀ (x2 : Int32) (H : Heap) (locs : List Loc) (ls : Array Slot), B_Math_floorMod_18 R I x2 = some v → wW g R I H → va_S (· ∈ g.L) s.heap H locs → lv_has ls 3 [(2, .int x2)] → W p l e { frames := 0, cells := 0, slots := 0, locals := 0 } s m args below meth c H locs 0 0 (MQ below (Qi g R v I) args s 0 0 (· ∈ g.L)) (F0 m 18 ls []) := by
  have ⟨hx, hb, hml, hr, hlk, hown, hall, hT, hK⟩ := cx
  intro x2 H locs ls h hP hS hl
  unfold B_Math_floorMod_18 at h
  refine lv_iload_n hx hb d_Math_floorMod_18 rfl (lv_at hl 0 rfl) ?_
  obtain rfl := Option.some.inj h
  exact gg_iret hx hb hr hlk hK hP hS d_Math_floorMod_19
def F_Math_floorMod (R : Nat → Nat → Nat) (x0 : Int32) (x1 : Int32) (I : St) : Option Int32 := (if x1 = 0 then none else (if 0 ≤ (x0 ^^^ x1) then B_Math_floorMod_18 R I (x0 - x0 / x1 * x1) else (if (x0 - x0 / x1 * x1) = 0 then B_Math_floorMod_18 R I (x0 - x0 / x1 * x1) else some ((x0 - x0 / x1 * x1) + x1))))
set_option maxHeartbeats 4000000 in
set_option maxRecDepth 100000 in
theorem c_Math_floorMod (l : Launch) {g : Sg} {R : Nat → Nat → Nat} (hT : Ty g R) {x0 : Int32} {x1 : Int32} {I : St} {v : Int32} (h : F_Math_floorMod R x0 x1 I = some v) : Cti l g R y_Math_floorMod w_Math_floorMod 0 0 [.int x0, .int x1] I v I := by
  unfold Cti
  refine Met_ofWF (cc := b_Math_floorMod) (maxL := 3) (ret := (some .int)) (by decide +kernel) rfl ?_
  intro p e s m args below meth c s₁ B hml hv
  obtain ⟨rfl, hP, hK⟩ := hv
  have hts := atoms_spec (ws := w_Math_floorMod) B.pre
  have hall : ∀ w ∈ w_all, w.before _ s = true := fun w hw => hts w (List.mem_cons_of_mem _ hw)
  have hown : s.vm.findClass R_Math = some m.cls := findClass_of_methodNamed B.named
  have hx := B.exec
  have hb := B.bytes
  have hr := B.returns
  have hlk := B.notSynchronized
  have cx : Cx p s m _ meth c g R R_Math b_Math_floorMod 3 (some .int) := ⟨hx, hb, hml, hr, hlk, hown, hall, hT, hK⟩
  have hl := lv_entry ([.int x0, .int x1]) (n := 3) (Nat.le_of_ble_eq_true rfl)
  rw [lg_entry_eq]
  generalize (lg_sl ([.int x0, .int x1]) ++ List.replicate (3 - (lg_sl ([.int x0, .int x1])).length) Slot.unset).toArray = ls at hl ⊢
  have hl : lv_has ls 3 [(0, .int x0), (1, .int x1)] := hl
  have hS : va_S (· ∈ g.L) s.heap s.heap [] := va_S.rf
  unfold F_Math_floorMod at h
  refine lv_iload_n hx hb d_Math_floorMod_0 rfl (lv_at hl 0 rfl) ?_
  refine lv_iload_n hx hb d_Math_floorMod_1 rfl (lv_at hl 1 rfl) ?_
  obtain ⟨nz2, h⟩ := nz_el h
  refine lv_irem hx hb d_Math_floorMod_2 nz2 ?_
  refine lv_istore_n (lv' := [(2, .int (x0 - x0 / x1 * x1)), (0, .int x0), (1, .int x1)]) hx hb d_Math_floorMod_3 rfl hl (Nat.le_of_ble_eq_true rfl) rfl (fun ls hl => ?_)
  refine lv_iload_n hx hb d_Math_floorMod_4 rfl (lv_at hl 1 rfl) ?_
  refine lv_iload_n hx hb d_Math_floorMod_5 rfl (lv_at hl 2 rfl) ?_
  refine lv_ixor hx hb d_Math_floorMod_6 ?_
  refine lv_if_ge hx hb d_Math_floorMod_7 rfl (fun hc => ?_) (fun hc => ?_)
  · replace h := i_pos hc h
    exact b_Math_floorMod_18 cx _ _ _ _ h hP hS (lv_sub hl [0] rfl)
  · replace h := i_neg hc h
    refine lv_iload_n hx hb d_Math_floorMod_10 rfl (lv_at hl 0 rfl) ?_
    refine lv_if_eq hx hb d_Math_floorMod_11 rfl (fun hc => ?_) (fun hc => ?_)
    · replace h := i_pos hc h
      exact b_Math_floorMod_18 cx _ _ _ _ h hP hS (lv_sub hl [0] rfl)
    · replace h := i_neg hc h
      refine lv_iload_n hx hb d_Math_floorMod_14 rfl (lv_at hl 0 rfl) ?_
      refine lv_iload_n hx hb d_Math_floorMod_15 rfl (lv_at hl 2 rfl) ?_
      refine lv_iadd hx hb d_Math_floorMod_16 ?_
      obtain rfl := Option.some.inj h
      exact gg_iret hx hb hr hlk hK hP hS d_Math_floorMod_17
abbrev b_Node_nextOwnEpoch : ByteArray := prog_4_method_5_code
def y_Node_nextOwnEpoch : MethodName := ⟨"StampedStore$Node", "nextOwnEpoch", "()I"⟩
def w_Node_nextOwnEpoch : List Cond := .code y_Node_nextOwnEpoch b_Node_nextOwnEpoch 2 (some .int) :: w_all
theorem d_Node_nextOwnEpoch_0 : decode b_Node_nextOwnEpoch 0 = .ok (.aload_n 0, 1) := by decide +kernel
theorem d_Node_nextOwnEpoch_1 : decode b_Node_nextOwnEpoch 1 = .ok (.getfield 26, 3) := by decide +kernel
theorem d_Node_nextOwnEpoch_4 : decode b_Node_nextOwnEpoch 4 = .ok (.aload_n 0, 1) := by decide +kernel
theorem d_Node_nextOwnEpoch_5 : decode b_Node_nextOwnEpoch 5 = .ok (.getfield 54, 3) := by decide +kernel
theorem d_Node_nextOwnEpoch_8 : decode b_Node_nextOwnEpoch 8 = .ok (.isub, 1) := by decide +kernel
theorem d_Node_nextOwnEpoch_9 : decode b_Node_nextOwnEpoch 9 = .ok (.iconst 3, 1) := by decide +kernel
theorem d_Node_nextOwnEpoch_10 : decode b_Node_nextOwnEpoch 10 = .ok (.invokestatic 57, 3) := by decide +kernel
theorem d_Node_nextOwnEpoch_13 : decode b_Node_nextOwnEpoch 13 = .ok (.istore_n 1, 1) := by decide +kernel
theorem d_Node_nextOwnEpoch_14 : decode b_Node_nextOwnEpoch 14 = .ok (.aload_n 0, 1) := by decide +kernel
theorem d_Node_nextOwnEpoch_15 : decode b_Node_nextOwnEpoch 15 = .ok (.getfield 54, 3) := by decide +kernel
theorem d_Node_nextOwnEpoch_18 : decode b_Node_nextOwnEpoch 18 = .ok (.iload_n 1, 1) := by decide +kernel
theorem d_Node_nextOwnEpoch_19 : decode b_Node_nextOwnEpoch 19 = .ok (.ifCond .ne 7, 3) := by decide +kernel
theorem d_Node_nextOwnEpoch_22 : decode b_Node_nextOwnEpoch 22 = .ok (.iconst 3, 1) := by decide +kernel
theorem d_Node_nextOwnEpoch_23 : decode b_Node_nextOwnEpoch 23 = .ok (.goto 4, 3) := by decide +kernel
theorem d_Node_nextOwnEpoch_26 : decode b_Node_nextOwnEpoch 26 = .ok (.iload_n 1, 1) := by decide +kernel
theorem d_Node_nextOwnEpoch_27 : decode b_Node_nextOwnEpoch 27 = .ok (.iadd, 1) := by decide +kernel
theorem d_Node_nextOwnEpoch_28 : decode b_Node_nextOwnEpoch 28 = .ok (.ireturn, 1) := by decide +kernel
def B_Node_nextOwnEpoch_27 (R : Nat → Nat → Nat) (I : St) (t0 : Int32) (t1 : Int32) : Option Int32 := some (t0 + t1)
set_option maxHeartbeats 4000000 in
set_option maxRecDepth 100000 in
theorem b_Node_nextOwnEpoch_27 {p : Program} {l : Launch} {e : Env} {s : State} {m : MethodId} {args : Array Value} {below : List Frame} {meth : Method} {c : Code} {g : Sg} {R : Nat → Nat → Nat} {I : St} {v : Int32} (cx : Cx p s m args meth c g R R_Node b_Node_nextOwnEpoch 2 (some .int)) : ∀ (t0 : Int32) (t1 : Int32) (H : Heap) (locs : List Loc) (ls : Array Slot), B_Node_nextOwnEpoch_27 R I t0 t1 = some v → wW g R I H → va_S (· ∈ g.L) s.heap H locs → lv_has ls 2 [] → W p l e { frames := 1, cells := 0, slots := 0, locals := 22 } s m args below meth c H locs 0 0 (MQ below (Qi g R v I) args s 0 0 (· ∈ g.L)) (F0 m 27 ls [.int t1, .int t0]) := by
  have ⟨hx, hb, hml, hr, hlk, hown, hall, hT, hK⟩ := cx
  intro t0 t1 H locs ls h hP hS hl
  unfold B_Node_nextOwnEpoch_27 at h
  refine lv_iadd hx hb d_Node_nextOwnEpoch_27 ?_
  obtain rfl := Option.some.inj h
  exact gg_iret hx hb hr hlk hK hP hS d_Node_nextOwnEpoch_28
def F_Node_nextOwnEpoch (R : Nat → Nat → Nat) (a0 : Nat) (I : St) : Option Int32 := (ob (F_Math_floorMod R ((I a0 0) - (I a0 6)) (3 : Int32) I) (fun v10 => (if v10 = 0 then B_Node_nextOwnEpoch_27 R I (I a0 6) (3 : Int32) else B_Node_nextOwnEpoch_27 R I (I a0 6) v10)))
set_option maxHeartbeats 4000000 in
set_option maxRecDepth 100000 in
theorem c_Node_nextOwnEpoch (l : Launch) {g : Sg} {R : Nat → Nat → Nat} (hT : Ty g R) {a0 : Nat} (o0 : okA g 2 0 a0) {I : St} {v : Int32} (h : F_Node_nextOwnEpoch R a0 I = some v) : Cti l g R y_Node_nextOwnEpoch w_Node_nextOwnEpoch 1 22 [.ref a0] I v I := by
  unfold Cti
  refine Met.ofW (cc := b_Node_nextOwnEpoch) (maxL := 2) (ret := (some .int)) (by decide) rfl ?_
  intro p e s m args below meth c s₁ B hml hv
  obtain ⟨rfl, hP, hK⟩ := hv
  have hts := atoms_spec (ws := w_Node_nextOwnEpoch) B.pre
  have hall : ∀ w ∈ w_all, w.before _ s = true := fun w hw => hts w (List.mem_cons_of_mem _ hw)
  have hown : s.vm.findClass R_Node = some m.cls := findClass_of_methodNamed B.named
  have hx := B.exec
  have hb := B.bytes
  have hr := B.returns
  have hlk := B.notSynchronized
  have cx : Cx p s m _ meth c g R R_Node b_Node_nextOwnEpoch 2 (some .int) := ⟨hx, hb, hml, hr, hlk, hown, hall, hT, hK⟩
  have hl := lv_entry ([.ref a0]) (n := 2) (Nat.le_of_ble_eq_true rfl)
  rw [lg_entry_eq]
  generalize (lg_sl ([.ref a0]) ++ List.replicate (2 - (lg_sl ([.ref a0])).length) Slot.unset).toArray = ls at hl ⊢
  have hl : lv_has ls 2 [(0, .ref a0)] := hl
  have hS : va_S (· ∈ g.L) s.heap s.heap [] := va_S.rf
  unfold F_Node_nextOwnEpoch at h
  refine lv_aload_n hx hb d_Node_nextOwnEpoch_0 rfl (lv_at hl 0 rfl) ?_
  refine gg_get (C := R_Node) (T := F_Node) (N := 10) (ci := 2) hx hb hall i_Node hown hK hP o0.1 (wE_2 o0.2) rfl 0 (by decide) (hall _ m_16) (fun _ h9 => h9) rfl d_Node_nextOwnEpoch_1 ?_
  refine lv_aload_n hx hb d_Node_nextOwnEpoch_4 rfl (lv_at hl 0 rfl) ?_
  refine gg_get (C := R_Node) (T := F_Node) (N := 10) (ci := 2) hx hb hall i_Node hown hK hP o0.1 (wE_2 o0.2) rfl 6 (by decide) (hall _ m_17) (fun _ h9 => h9) rfl d_Node_nextOwnEpoch_5 ?_
  refine lv_isub hx hb d_Node_nextOwnEpoch_8 ?_
  refine lv_iconst (v := 3) hx hb d_Node_nextOwnEpoch_9 (by decide) ?_
  obtain ⟨v10, e10, h⟩ := ob_el h
  refine gg_Si (As := [.int ((I a0 0) - (I a0 6)), .int (3 : Int32)]) (rest := []) ⟨hx, hb, hml, hown, hall⟩ (c_Math_floorMod l hT e10) ⟨callB_of 2 hall (gC m_15) rfl rfl rfl (hall _ m_18) (hall _ m_19) (by decide +kernel) ⟨Nat.le_of_ble_eq_true rfl, Nat.le_of_ble_eq_true rfl⟩, hall _ m_20⟩ hK hP hS rfl hl.1 rfl (Nat.le_of_ble_eq_true rfl) d_Node_nextOwnEpoch_10 (fun H locs hP hS => ?_)
  refine lv_istore_n (lv' := [(1, .int v10), (0, .ref a0)]) hx hb d_Node_nextOwnEpoch_13 rfl hl (Nat.le_of_ble_eq_true rfl) rfl (fun ls hl => ?_)
  refine lv_aload_n hx hb d_Node_nextOwnEpoch_14 rfl (lv_at hl 1 rfl) ?_
  refine gg_get (C := R_Node) (T := F_Node) (N := 10) (ci := 2) hx hb hall i_Node hown hK hP o0.1 (wE_2 o0.2) rfl 6 (by decide) (hall _ m_17) (fun _ h9 => h9) rfl d_Node_nextOwnEpoch_15 ?_
  refine lv_iload_n hx hb d_Node_nextOwnEpoch_18 rfl (lv_at hl 0 rfl) ?_
  refine lv_if_ne hx hb d_Node_nextOwnEpoch_19 rfl (fun hc => ?_) (fun hc => ?_)
  · replace h := i_neg hc h
    refine lv_iload_n hx hb d_Node_nextOwnEpoch_26 rfl (lv_at hl 0 rfl) ?_
    exact b_Node_nextOwnEpoch_27 cx _ _ _ _ _ h hP hS (lv_sub hl [] rfl)
  · replace h := i_pos hc h
    refine lv_iconst (v := 3) hx hb d_Node_nextOwnEpoch_22 (by decide) ?_
    refine lv_goto hx hb d_Node_nextOwnEpoch_23 rfl ?_
    exact b_Node_nextOwnEpoch_27 cx _ _ _ _ _ h hP hS (lv_sub hl [] rfl)
abbrev b_Store_groupOfNode : ByteArray := prog_1_method_25_code
def y_Store_groupOfNode : MethodName := ⟨"StampedStore", "groupOfNode", "(I)I"⟩
def w_Store_groupOfNode : List Cond := .code y_Store_groupOfNode b_Store_groupOfNode 1 (some .int) :: w_all
theorem d_Store_groupOfNode_0 : decode b_Store_groupOfNode 0 = .ok (.iload_n 0, 1) := by decide +kernel
theorem d_Store_groupOfNode_1 : decode b_Store_groupOfNode 1 = .ok (.iconst 3, 1) := by decide +kernel
theorem d_Store_groupOfNode_2 : decode b_Store_groupOfNode 2 = .ok (.idiv, 1) := by decide +kernel
theorem d_Store_groupOfNode_3 : decode b_Store_groupOfNode 3 = .ok (.ireturn, 1) := by decide +kernel
def F_Store_groupOfNode (R : Nat → Nat → Nat) (x0 : Int32) (I : St) : Option Int32 := some (x0 / (3 : Int32))
set_option maxHeartbeats 4000000 in
set_option maxRecDepth 100000 in
theorem c_Store_groupOfNode (l : Launch) {g : Sg} {R : Nat → Nat → Nat} (hT : Ty g R) {x0 : Int32} {I : St} {v : Int32} (h : F_Store_groupOfNode R x0 I = some v) : Cti l g R y_Store_groupOfNode w_Store_groupOfNode 0 0 [.int x0] I v I := by
  unfold Cti
  refine Met.ofW (cc := b_Store_groupOfNode) (maxL := 1) (ret := (some .int)) (by decide) rfl ?_
  intro p e s m args below meth c s₁ B hml hv
  obtain ⟨rfl, hP, hK⟩ := hv
  have hts := atoms_spec (ws := w_Store_groupOfNode) B.pre
  have hall : ∀ w ∈ w_all, w.before _ s = true := fun w hw => hts w (List.mem_cons_of_mem _ hw)
  have hown : s.vm.findClass R_Store = some m.cls := findClass_of_methodNamed B.named
  have hx := B.exec
  have hb := B.bytes
  have hr := B.returns
  have hlk := B.notSynchronized
  have cx : Cx p s m _ meth c g R R_Store b_Store_groupOfNode 1 (some .int) := ⟨hx, hb, hml, hr, hlk, hown, hall, hT, hK⟩
  have hl := lv_entry ([.int x0]) (n := 1) (Nat.le_of_ble_eq_true rfl)
  rw [lg_entry_eq]
  generalize (lg_sl ([.int x0]) ++ List.replicate (1 - (lg_sl ([.int x0])).length) Slot.unset).toArray = ls at hl ⊢
  have hl : lv_has ls 1 [(0, .int x0)] := hl
  have hS : va_S (· ∈ g.L) s.heap s.heap [] := va_S.rf
  unfold F_Store_groupOfNode at h
  refine lv_iload_n hx hb d_Store_groupOfNode_0 rfl (lv_at hl 0 rfl) ?_
  refine lv_iconst (v := 3) hx hb d_Store_groupOfNode_1 (by decide) ?_
  refine lv_idiv hx hb d_Store_groupOfNode_2 (by decide) ?_
  obtain rfl := Option.some.inj h
  exact gg_iret hx hb hr hlk hK hP hS d_Store_groupOfNode_3
abbrev b_Store_firstNodeBeside : ByteArray := prog_1_method_27_code
def y_Store_firstNodeBeside : MethodName := ⟨"StampedStore", "firstNodeBeside", "(LStampedStore$Node;)I"⟩
def w_Store_firstNodeBeside : List Cond := .code y_Store_firstNodeBeside b_Store_firstNodeBeside 1 (some .int) :: w_all
theorem d_Store_firstNodeBeside_0 : decode b_Store_firstNodeBeside 0 = .ok (.aload_n 0, 1) := by decide +kernel
theorem d_Store_firstNodeBeside_1 : decode b_Store_firstNodeBeside 1 = .ok (.getfield 201, 3) := by decide +kernel
theorem d_Store_firstNodeBeside_4 : decode b_Store_firstNodeBeside 4 = .ok (.invokestatic 90, 3) := by decide +kernel
theorem d_Store_firstNodeBeside_7 : decode b_Store_firstNodeBeside 7 = .ok (.iconst 3, 1) := by decide +kernel
theorem d_Store_firstNodeBeside_8 : decode b_Store_firstNodeBeside 8 = .ok (.imul, 1) := by decide +kernel
theorem d_Store_firstNodeBeside_9 : decode b_Store_firstNodeBeside 9 = .ok (.ireturn, 1) := by decide +kernel
def F_Store_firstNodeBeside (R : Nat → Nat → Nat) (a0 : Nat) (I : St) : Option Int32 := (ob (F_Store_groupOfNode R (I a0 0) I) (fun v4 => some (v4 * (3 : Int32))))
set_option maxHeartbeats 4000000 in
set_option maxRecDepth 100000 in
theorem c_Store_firstNodeBeside (l : Launch) {g : Sg} {R : Nat → Nat → Nat} (hT : Ty g R) {a0 : Nat} (o0 : okA g 2 0 a0) {I : St} {v : Int32} (h : F_Store_firstNodeBeside R a0 I = some v) : Cti l g R y_Store_firstNodeBeside w_Store_firstNodeBeside 1 20 [.ref a0] I v I := by
  unfold Cti
  refine Met.ofW (cc := b_Store_firstNodeBeside) (maxL := 1) (ret := (some .int)) (by decide) rfl ?_
  intro p e s m args below meth c s₁ B hml hv
  obtain ⟨rfl, hP, hK⟩ := hv
  have hts := atoms_spec (ws := w_Store_firstNodeBeside) B.pre
  have hall : ∀ w ∈ w_all, w.before _ s = true := fun w hw => hts w (List.mem_cons_of_mem _ hw)
  have hown : s.vm.findClass R_Store = some m.cls := findClass_of_methodNamed B.named
  have hx := B.exec
  have hb := B.bytes
  have hr := B.returns
  have hlk := B.notSynchronized
  have cx : Cx p s m _ meth c g R R_Store b_Store_firstNodeBeside 1 (some .int) := ⟨hx, hb, hml, hr, hlk, hown, hall, hT, hK⟩
  have hl := lv_entry ([.ref a0]) (n := 1) (Nat.le_of_ble_eq_true rfl)
  rw [lg_entry_eq]
  generalize (lg_sl ([.ref a0]) ++ List.replicate (1 - (lg_sl ([.ref a0])).length) Slot.unset).toArray = ls at hl ⊢
  have hl : lv_has ls 1 [(0, .ref a0)] := hl
  have hS : va_S (· ∈ g.L) s.heap s.heap [] := va_S.rf
  unfold F_Store_firstNodeBeside at h
  refine lv_aload_n hx hb d_Store_firstNodeBeside_0 rfl (lv_at hl 0 rfl) ?_
  refine gg_get (C := R_Node) (T := F_Node) (N := 10) (ci := 2) hx hb hall i_Node hown hK hP o0.1 (wE_2 o0.2) rfl 0 (by decide) (hall _ m_23) (fun _ h9 => h9) rfl d_Store_firstNodeBeside_1 ?_
  obtain ⟨v4, e4, h⟩ := ob_el h
  refine gg_Si (As := [.int (I a0 0)]) (rest := []) ⟨hx, hb, hml, hown, hall⟩ (c_Store_groupOfNode l hT e4) (cwS 1 hall (gS m_24 m_25 m_6 m_22) rfl rfl rfl (by decide +kernel) ⟨Nat.le_of_ble_eq_true rfl, Nat.le_of_ble_eq_true rfl⟩) hK hP hS rfl hl.1 rfl (Nat.le_of_ble_eq_true rfl) d_Store_firstNodeBeside_4 (fun H locs hP hS => ?_)
  refine lv_iconst (v := 3) hx hb d_Store_firstNodeBeside_7 (by decide) ?_
  refine lv_imul hx hb d_Store_firstNodeBeside_8 ?_
  obtain rfl := Option.some.inj h
  exact gg_iret hx hb hr hlk hK hP hS d_Store_firstNodeBeside_9
abbrev b_Node_earliest : ByteArray := prog_4_method_2_code
def y_Node_earliest : MethodName := ⟨"StampedStore$Node", "earliest", "()I"⟩
def w_Node_earliest : List Cond := .code y_Node_earliest b_Node_earliest 1 (some .int) :: w_all
theorem d_Node_earliest_0 : decode b_Node_earliest 0 = .ok (.aload_n 0, 1) := by decide +kernel
theorem d_Node_earliest_1 : decode b_Node_earliest 1 = .ok (.getfield 29, 3) := by decide +kernel
theorem d_Node_earliest_4 : decode b_Node_earliest 4 = .ok (.getfield 33, 3) := by decide +kernel
theorem d_Node_earliest_7 : decode b_Node_earliest 7 = .ok (.aload_n 0, 1) := by decide +kernel
theorem d_Node_earliest_8 : decode b_Node_earliest 8 = .ok (.getfield 38, 3) := by decide +kernel
theorem d_Node_earliest_11 : decode b_Node_earliest 11 = .ok (.iadd, 1) := by decide +kernel
theorem d_Node_earliest_12 : decode b_Node_earliest 12 = .ok (.aload_n 0, 1) := by decide +kernel
theorem d_Node_earliest_13 : decode b_Node_earliest 13 = .ok (.getfield 29, 3) := by decide +kernel
theorem d_Node_earliest_16 : decode b_Node_earliest 16 = .ok (.getfield 41, 3) := by decide +kernel
theorem d_Node_earliest_19 : decode b_Node_earliest 19 = .ok (.isub, 1) := by decide +kernel
theorem d_Node_earliest_20 : decode b_Node_earliest 20 = .ok (.ireturn, 1) := by decide +kernel
def F_Node_earliest (R : Nat → Nat → Nat) (a0 : Nat) (I : St) : Option Int32 := some (((I (R a0 1) 1) + (I a0 5)) - (I (R a0 1) 0))
set_option maxHeartbeats 4000000 in
set_option maxRecDepth 100000 in
theorem c_Node_earliest (l : Launch) {g : Sg} {R : Nat → Nat → Nat} (hT : Ty g R) {a0 : Nat} (o0 : okA g 2 0 a0) {I : St} {v : Int32} (h : F_Node_earliest R a0 I = some v) : Cti l g R y_Node_earliest w_Node_earliest 0 0 [.ref a0] I v I := by
  unfold Cti
  refine Met.ofW (cc := b_Node_earliest) (maxL := 1) (ret := (some .int)) (by decide) rfl ?_
  intro p e s m args below meth c s₁ B hml hv
  obtain ⟨rfl, hP, hK⟩ := hv
  have hts := atoms_spec (ws := w_Node_earliest) B.pre
  have hall : ∀ w ∈ w_all, w.before _ s = true := fun w hw => hts w (List.mem_cons_of_mem _ hw)
  have hown : s.vm.findClass R_Node = some m.cls := findClass_of_methodNamed B.named
  have hx := B.exec
  have hb := B.bytes
  have hr := B.returns
  have hlk := B.notSynchronized
  have cx : Cx p s m _ meth c g R R_Node b_Node_earliest 1 (some .int) := ⟨hx, hb, hml, hr, hlk, hown, hall, hT, hK⟩
  have hl := lv_entry ([.ref a0]) (n := 1) (Nat.le_of_ble_eq_true rfl)
  rw [lg_entry_eq]
  generalize (lg_sl ([.ref a0]) ++ List.replicate (1 - (lg_sl ([.ref a0])).length) Slot.unset).toArray = ls at hl ⊢
  have hl : lv_has ls 1 [(0, .ref a0)] := hl
  have hS : va_S (· ∈ g.L) s.heap s.heap [] := va_S.rf
  unfold F_Node_earliest at h
  refine lv_aload_n hx hb d_Node_earliest_0 rfl (lv_at hl 0 rfl) ?_
  refine gg_get (C := R_Node) (T := F_Node) (N := 10) (ci := 2) hx hb hall i_Node hown hK hP o0.1 (wE_2 o0.2) rfl 1 (by decide) (hall _ m_27) (fun _ h9 => h9) rfl d_Node_earliest_1 ?_
  have o_1 : okA g 0 0 (R a0 1) := ty_Node_1 hT o0
  refine gg_get (C := R_Clock) (T := F_Clock) (N := 2) (ci := 0) hx hb hall i_Clock hown hK hP o_1.1 (wE_0 o_1.2) rfl 1 (by decide) (hall _ m_28) (fun _ h9 => h9) rfl d_Node_earliest_4 ?_
  refine lv_aload_n hx hb d_Node_earliest_7 rfl (lv_at hl 0 rfl) ?_
  refine gg_get (C := R_Node) (T := F_Node) (N := 10) (ci := 2) hx hb hall i_Node hown hK hP o0.1 (wE_2 o0.2) rfl 5 (by decide) (hall _ m_29) (fun _ h9 => h9) rfl d_Node_earliest_8 ?_
  refine lv_iadd hx hb d_Node_earliest_11 ?_
  refine lv_aload_n hx hb d_Node_earliest_12 rfl (lv_at hl 0 rfl) ?_
  refine gg_get (C := R_Node) (T := F_Node) (N := 10) (ci := 2) hx hb hall i_Node hown hK hP o0.1 (wE_2 o0.2) rfl 1 (by decide) (hall _ m_27) (fun _ h9 => h9) rfl d_Node_earliest_13 ?_
  have o_13 : okA g 0 0 (R a0 1) := ty_Node_1 hT o0
  refine gg_get (C := R_Clock) (T := F_Clock) (N := 2) (ci := 0) hx hb hall i_Clock hown hK hP o_13.1 (wE_0 o_13.2) rfl 0 (by decide) (hall _ m_30) (fun _ h9 => h9) rfl d_Node_earliest_16 ?_
  refine lv_isub hx hb d_Node_earliest_19 ?_
  obtain rfl := Option.some.inj h
  exact gg_iret hx hb hr hlk hK hP hS d_Node_earliest_20
abbrev b_Log_lastEpoch : ByteArray := prog_3_method_5_code
def y_Log_lastEpoch : MethodName := ⟨"StampedStore$Log", "lastEpoch", "()I"⟩
def w_Log_lastEpoch : List Cond := .code y_Log_lastEpoch b_Log_lastEpoch 1 (some .int) :: w_all
theorem d_Log_lastEpoch_0 : decode b_Log_lastEpoch 0 = .ok (.aload_n 0, 1) := by decide +kernel
theorem d_Log_lastEpoch_1 : decode b_Log_lastEpoch 1 = .ok (.getfield 27, 3) := by decide +kernel
theorem d_Log_lastEpoch_4 : decode b_Log_lastEpoch 4 = .ok (.ifCond .le 17, 3) := by decide +kernel
theorem d_Log_lastEpoch_7 : decode b_Log_lastEpoch 7 = .ok (.aload_n 0, 1) := by decide +kernel
theorem d_Log_lastEpoch_8 : decode b_Log_lastEpoch 8 = .ok (.getfield 9, 3) := by decide +kernel
theorem d_Log_lastEpoch_11 : decode b_Log_lastEpoch 11 = .ok (.aload_n 0, 1) := by decide +kernel
theorem d_Log_lastEpoch_12 : decode b_Log_lastEpoch 12 = .ok (.getfield 27, 3) := by decide +kernel
theorem d_Log_lastEpoch_15 : decode b_Log_lastEpoch 15 = .ok (.iconst 1, 1) := by decide +kernel
theorem d_Log_lastEpoch_16 : decode b_Log_lastEpoch 16 = .ok (.isub, 1) := by decide +kernel
theorem d_Log_lastEpoch_17 : decode b_Log_lastEpoch 17 = .ok (.iaload, 1) := by decide +kernel
theorem d_Log_lastEpoch_18 : decode b_Log_lastEpoch 18 = .ok (.goto 4, 3) := by decide +kernel
theorem d_Log_lastEpoch_21 : decode b_Log_lastEpoch 21 = .ok (.iconst 0, 1) := by decide +kernel
theorem d_Log_lastEpoch_22 : decode b_Log_lastEpoch 22 = .ok (.ireturn, 1) := by decide +kernel
def F_Log_lastEpoch (R : Nat → Nat → Nat) (a0 : Nat) (I : St) : Option Int32 := (if (I a0 5) ≤ 0 then some (0 : Int32) else (chk ((I a0 5) - (1 : Int32)) 60 (some (I (R a0 0) ((I a0 5) - (1 : Int32)).toNatClampNeg))))
set_option maxHeartbeats 4000000 in
set_option maxRecDepth 100000 in
theorem c_Log_lastEpoch (l : Launch) {g : Sg} {R : Nat → Nat → Nat} (hT : Ty g R) {a0 : Nat} (o0 : okA g 1 0 a0) {I : St} {v : Int32} (h : F_Log_lastEpoch R a0 I = some v) : Cti l g R y_Log_lastEpoch w_Log_lastEpoch 0 0 [.ref a0] I v I := by
  unfold Cti
  refine Met.ofW (cc := b_Log_lastEpoch) (maxL := 1) (ret := (some .int)) (by decide) rfl ?_
  intro p e s m args below meth c s₁ B hml hv
  obtain ⟨rfl, hP, hK⟩ := hv
  have hts := atoms_spec (ws := w_Log_lastEpoch) B.pre
  have hall : ∀ w ∈ w_all, w.before _ s = true := fun w hw => hts w (List.mem_cons_of_mem _ hw)
  have hown : s.vm.findClass R_Log = some m.cls := findClass_of_methodNamed B.named
  have hx := B.exec
  have hb := B.bytes
  have hr := B.returns
  have hlk := B.notSynchronized
  have cx : Cx p s m _ meth c g R R_Log b_Log_lastEpoch 1 (some .int) := ⟨hx, hb, hml, hr, hlk, hown, hall, hT, hK⟩
  have hl := lv_entry ([.ref a0]) (n := 1) (Nat.le_of_ble_eq_true rfl)
  rw [lg_entry_eq]
  generalize (lg_sl ([.ref a0]) ++ List.replicate (1 - (lg_sl ([.ref a0])).length) Slot.unset).toArray = ls at hl ⊢
  have hl : lv_has ls 1 [(0, .ref a0)] := hl
  have hS : va_S (· ∈ g.L) s.heap s.heap [] := va_S.rf
  unfold F_Log_lastEpoch at h
  refine lv_aload_n hx hb d_Log_lastEpoch_0 rfl (lv_at hl 0 rfl) ?_
  refine gg_get (C := R_Log) (T := F_Log) (N := 7) (ci := 1) hx hb hall i_Log hown hK hP o0.1 (wE_1 o0.2) rfl 5 (by decide) (hall _ m_32) (fun _ h9 => h9) rfl d_Log_lastEpoch_1 ?_
  refine lv_if_le hx hb d_Log_lastEpoch_4 rfl (fun hc => ?_) (fun hc => ?_)
  · replace h := i_pos hc h
    refine lv_iconst (v := 0) hx hb d_Log_lastEpoch_21 (by decide) ?_
    obtain rfl := Option.some.inj h
    exact gg_iret hx hb hr hlk hK hP hS d_Log_lastEpoch_22
  · replace h := i_neg hc h
    refine lv_aload_n hx hb d_Log_lastEpoch_7 rfl (lv_at hl 0 rfl) ?_
    refine gg_get (C := R_Log) (T := F_Log) (N := 7) (ci := 1) hx hb hall i_Log hown hK hP o0.1 (wE_1 o0.2) rfl 0 (by decide) (hall _ m_33) (fun _ h9 => h9) rfl d_Log_lastEpoch_8 ?_
    have o_8 : okA g 6 60 (R a0 0) := ty_Log_0 hT o0
    refine lv_aload_n hx hb d_Log_lastEpoch_11 rfl (lv_at hl 0 rfl) ?_
    refine gg_get (C := R_Log) (T := F_Log) (N := 7) (ci := 1) hx hb hall i_Log hown hK hP o0.1 (wE_1 o0.2) rfl 5 (by decide) (hall _ m_32) (fun _ h9 => h9) rfl d_Log_lastEpoch_12 ?_
    refine lv_iconst (v := 1) hx hb d_Log_lastEpoch_15 (by decide) ?_
    refine lv_isub hx hb d_Log_lastEpoch_16 ?_
    obtain ⟨hi17, h⟩ := chk_el h
    refine gg_iald hx hb hK hP o_8 hi17 d_Log_lastEpoch_17 ?_
    refine lv_goto hx hb d_Log_lastEpoch_18 rfl ?_
    obtain rfl := Option.some.inj h
    exact gg_iret hx hb hr hlk hK hP hS d_Log_lastEpoch_22
end
