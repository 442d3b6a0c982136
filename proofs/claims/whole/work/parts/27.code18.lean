section
abbrev b_Model_begin : ByteArray := prog_7_method_28_code
def y_Model_begin : MethodName := ⟨"StampedStoreModel", "begin", "()I"⟩
def w_Model_begin : List Cond := .code y_Model_begin b_Model_begin 1 (some .int) :: w_all
theorem d_Model_begin_0 : decode b_Model_begin 0 = .ok (.aload_n 0, 1) := by decide +kernel
theorem d_Model_begin_1 : decode b_Model_begin 1 = .ok (.getfield 135, 3) := by decide +kernel
theorem d_Model_begin_4 : decode b_Model_begin 4 = .ok (.bipush 16, 2) := by decide +kernel
theorem d_Model_begin_6 : decode b_Model_begin 6 = .ok (.if_icmp .ne 5, 3) := by decide +kernel
theorem d_Model_begin_9 : decode b_Model_begin 9 = .ok (.iconst (-1), 1) := by decide +kernel
theorem d_Model_begin_10 : decode b_Model_begin 10 = .ok (.ireturn, 1) := by decide +kernel
theorem d_Model_begin_11 : decode b_Model_begin 11 = .ok (.aload_n 0, 1) := by decide +kernel
theorem d_Model_begin_12 : decode b_Model_begin 12 = .ok (.dup, 1) := by decide +kernel
theorem d_Model_begin_13 : decode b_Model_begin 13 = .ok (.getfield 135, 3) := by decide +kernel
theorem d_Model_begin_16 : decode b_Model_begin 16 = .ok (.iconst 1, 1) := by decide +kernel
theorem d_Model_begin_17 : decode b_Model_begin 17 = .ok (.iadd, 1) := by decide +kernel
theorem d_Model_begin_18 : decode b_Model_begin 18 = .ok (.putfield 135, 3) := by decide +kernel
theorem d_Model_begin_21 : decode b_Model_begin 21 = .ok (.aload_n 0, 1) := by decide +kernel
theorem d_Model_begin_22 : decode b_Model_begin 22 = .ok (.getfield 135, 3) := by decide +kernel
theorem d_Model_begin_25 : decode b_Model_begin 25 = .ok (.iconst 1, 1) := by decide +kernel
theorem d_Model_begin_26 : decode b_Model_begin 26 = .ok (.isub, 1) := by decide +kernel
theorem d_Model_begin_27 : decode b_Model_begin 27 = .ok (.ireturn, 1) := by decide +kernel
def F_Model_begin (R : Nat → Nat → Nat) (a0 : Nat) (I : St) : Option (Int32 × St) := (if (I a0 16) = (16 : Int32) then some ((-1 : Int32), I) else (ap (up2 I a0 16 ((I a0 16) + (1 : Int32))) (fun I18 => some (((I18 a0 16) - (1 : Int32)), I18))))
set_option maxHeartbeats 4000000 in
set_option maxRecDepth 100000 in
theorem c_Model_begin (l : Launch) {g : Sg} {R : Nat → Nat → Nat} (hT : Ty g R) {a0 : Nat} (o0 : okA g 5 0 a0) {I : St} {J : St} {v : Int32} (h : F_Model_begin R a0 I = some (v, J)) : Cti l g R y_Model_begin w_Model_begin 0 0 [.ref a0] I v J := by
  unfold Cti
  refine Met.ofW (cc := b_Model_begin) (maxL := 1) (ret := (some .int)) (by decide) rfl ?_
  intro p e s m args below meth c s₁ B hml hv
  obtain ⟨rfl, hP, hK⟩ := hv
  have hts := atoms_spec (ws := w_Model_begin) B.pre
  have hall : ∀ w ∈ w_all, w.before _ s = true := fun w hw => hts w (List.mem_cons_of_mem _ hw)
  have hown : s.vm.findClass R_Model = some m.cls := findClass_of_methodNamed B.named
  have hx := B.exec
  have hb := B.bytes
  have hr := B.returns
  have hlk := B.notSynchronized
  have cx : Cx p s m _ meth c g R R_Model b_Model_begin 1 (some .int) := ⟨hx, hb, hml, hr, hlk, hown, hall, hT, hK⟩
  have hl := lv_entry ([.ref a0]) (n := 1) (Nat.le_of_ble_eq_true rfl)
  rw [lg_entry_eq]
  generalize (lg_sl ([.ref a0]) ++ List.replicate (1 - (lg_sl ([.ref a0])).length) Slot.unset).toArray = ls at hl ⊢
  have hl : lv_has ls 1 [(0, .ref a0)] := hl
  have hS : va_S (· ∈ g.L) s.heap s.heap [] := va_S.rf
  unfold F_Model_begin at h
  refine lv_aload_n hx hb d_Model_begin_0 rfl (lv_at hl 0 rfl) ?_
  refine gg_get (C := R_Model) (T := F_Model) (N := 23) (ci := 5) hx hb hall i_Model hown hK hP o0.1 (wE_5 o0.2) rfl 16 (by decide) (hall _ m_419) (fun _ h9 => h9) rfl d_Model_begin_1 ?_
  refine lv_bipush (v := 16) hx hb d_Model_begin_4 (by decide) ?_
  refine lv_icmp_ne hx hb d_Model_begin_6 rfl (fun hc => ?_) (fun hc => ?_)
  · replace h := i_neg hc h
    refine lv_aload_n hx hb d_Model_begin_11 rfl (lv_at hl 0 rfl) ?_
    refine lv_dup hx hb d_Model_begin_12 rfl ?_
    refine gg_get (C := R_Model) (T := F_Model) (N := 23) (ci := 5) hx hb hall i_Model hown hK hP o0.1 (wE_5 o0.2) rfl 16 (by decide) (hall _ m_419) (fun _ h9 => h9) rfl d_Model_begin_13 ?_
    refine lv_iconst (v := 1) hx hb d_Model_begin_16 (by decide) ?_
    refine lv_iadd hx hb d_Model_begin_17 ?_
    refine gg_put (C := R_Model) (T := F_Model) (N := 23) (ci := 5) (ty := .int) hx hb hall i_Model t_Model t_Model_ok n_Model hown hT.1 hK hP hS o0.1 (wE_5 o0.2) rfl 16 (by decide) (hall _ m_419) (fun _ h9 => h9) rfl (by decide +kernel) rfl rfl (Nat.le_of_ble_eq_true rfl) (ws_Model_16 o0.2) d_Model_begin_18 (fun I18 H locs e18 hP hS => ?_)
    replace h := ap_el e18 h
    refine lv_aload_n hx hb d_Model_begin_21 rfl (lv_at hl 0 rfl) ?_
    refine gg_get (C := R_Model) (T := F_Model) (N := 23) (ci := 5) hx hb hall i_Model hown hK hP o0.1 (wE_5 o0.2) rfl 16 (by decide) (hall _ m_419) (fun _ h9 => h9) rfl d_Model_begin_22 ?_
    refine lv_iconst (v := 1) hx hb d_Model_begin_25 (by decide) ?_
    refine lv_isub hx hb d_Model_begin_26 ?_
    obtain ⟨rfl, rfl⟩ := rt_el h
    exact gg_iret hx hb hr hlk hK hP hS d_Model_begin_27
  · replace h := i_pos hc h
    refine lv_iconst (v := (-1)) hx hb d_Model_begin_9 (by decide) ?_
    obtain ⟨rfl, rfl⟩ := rt_el h
    exact gg_iret hx hb hr hlk hK hP hS d_Model_begin_10
abbrev b_Model_bits : ByteArray := prog_7_method_29_code
def y_Model_bits : MethodName := ⟨"StampedStoreModel", "bits", "(I)I"⟩
def w_Model_bits : List Cond := .code y_Model_bits b_Model_bits 1 (some .int) :: w_all
theorem d_Model_bits_0 : decode b_Model_bits 0 = .ok (.bipush 15, 2) := by decide +kernel
theorem d_Model_bits_2 : decode b_Model_bits 2 = .ok (.iconst 4, 1) := by decide +kernel
theorem d_Model_bits_3 : decode b_Model_bits 3 = .ok (.iload_n 0, 1) := by decide +kernel
theorem d_Model_bits_4 : decode b_Model_bits 4 = .ok (.imul, 1) := by decide +kernel
theorem d_Model_bits_5 : decode b_Model_bits 5 = .ok (.ishl, 1) := by decide +kernel
theorem d_Model_bits_6 : decode b_Model_bits 6 = .ok (.ireturn, 1) := by decide +kernel
def F_Model_bits (R : Nat → Nat → Nat) (x0 : Int32) (I : St) : Option Int32 := some ((15 : Int32) <<< (((4 : Int32) * x0) &&& 31))
set_option maxHeartbeats 4000000 in
set_option maxRecDepth 100000 in
theorem c_Model_bits (l : Launch) {g : Sg} {R : Nat → Nat → Nat} (hT : Ty g R) {x0 : Int32} {I : St} {v : Int32} (h : F_Model_bits R x0 I = some v) : Cti l g R y_Model_bits w_Model_bits 0 0 [.int x0] I v I := by
  unfold Cti
  refine Met.ofW (cc := b_Model_bits) (maxL := 1) (ret := (some .int)) (by decide) rfl ?_
  intro p e s m args below meth c s₁ B hml hv
  obtain ⟨rfl, hP, hK⟩ := hv
  have hts := atoms_spec (ws := w_Model_bits) B.pre
  have hall : ∀ w ∈ w_all, w.before _ s = true := fun w hw => hts w (List.mem_cons_of_mem _ hw)
  have hown : s.vm.findClass R_Model = some m.cls := findClass_of_methodNamed B.named
  have hx := B.exec
  have hb := B.bytes
  have hr := B.returns
  have hlk := B.notSynchronized
  have cx : Cx p s m _ meth c g R R_Model b_Model_bits 1 (some .int) := ⟨hx, hb, hml, hr, hlk, hown, hall, hT, hK⟩
  have hl := lv_entry ([.int x0]) (n := 1) (Nat.le_of_ble_eq_true rfl)
  rw [lg_entry_eq]
  generalize (lg_sl ([.int x0]) ++ List.replicate (1 - (lg_sl ([.int x0])).length) Slot.unset).toArray = ls at hl ⊢
  have hl : lv_has ls 1 [(0, .int x0)] := hl
  have hS : va_S (· ∈ g.L) s.heap s.heap [] := va_S.rf
  unfold F_Model_bits at h
  refine lv_bipush (v := 15) hx hb d_Model_bits_0 (by decide) ?_
  refine lv_iconst (v := 4) hx hb d_Model_bits_2 (by decide) ?_
  refine lv_iload_n hx hb d_Model_bits_3 rfl (lv_at hl 0 rfl) ?_
  refine lv_imul hx hb d_Model_bits_4 ?_
  refine lv_ishl hx hb d_Model_bits_5 ?_
  obtain rfl := Option.some.inj h
  exact gg_iret hx hb hr hlk hK hP hS d_Model_bits_6
abbrev b_Model_touches : ByteArray := prog_7_method_30_code
def y_Model_touches : MethodName := ⟨"StampedStoreModel", "touches", "(II)Z"⟩
def w_Model_touches : List Cond := .code y_Model_touches b_Model_touches 3 (some .boolean) :: w_all
theorem d_Model_touches_0 : decode b_Model_touches 0 = .ok (.aload_n 0, 1) := by decide +kernel
theorem d_Model_touches_1 : decode b_Model_touches 1 = .ok (.getfield 56, 3) := by decide +kernel
theorem d_Model_touches_4 : decode b_Model_touches 4 = .ok (.iload_n 1, 1) := by decide +kernel
theorem d_Model_touches_5 : decode b_Model_touches 5 = .ok (.iaload, 1) := by decide +kernel
theorem d_Model_touches_6 : decode b_Model_touches 6 = .ok (.aload_n 0, 1) := by decide +kernel
theorem d_Model_touches_7 : decode b_Model_touches 7 = .ok (.getfield 59, 3) := by decide +kernel
theorem d_Model_touches_10 : decode b_Model_touches 10 = .ok (.iload_n 1, 1) := by decide +kernel
theorem d_Model_touches_11 : decode b_Model_touches 11 = .ok (.iaload, 1) := by decide +kernel
theorem d_Model_touches_12 : decode b_Model_touches 12 = .ok (.ior, 1) := by decide +kernel
theorem d_Model_touches_13 : decode b_Model_touches 13 = .ok (.iload_n 2, 1) := by decide +kernel
theorem d_Model_touches_14 : decode b_Model_touches 14 = .ok (.invokestatic 138, 3) := by decide +kernel
theorem d_Model_touches_17 : decode b_Model_touches 17 = .ok (.iand, 1) := by decide +kernel
theorem d_Model_touches_18 : decode b_Model_touches 18 = .ok (.ifCond .eq 7, 3) := by decide +kernel
theorem d_Model_touches_21 : decode b_Model_touches 21 = .ok (.iconst 1, 1) := by decide +kernel
theorem d_Model_touches_22 : decode b_Model_touches 22 = .ok (.goto 4, 3) := by decide +kernel
theorem d_Model_touches_25 : decode b_Model_touches 25 = .ok (.iconst 0, 1) := by decide +kernel
theorem d_Model_touches_26 : decode b_Model_touches 26 = .ok (.ireturn, 1) := by decide +kernel
def F_Model_touches (R : Nat → Nat → Nat) (a0 : Nat) (x1 : Int32) (x2 : Int32) (I : St) : Option Int32 := (chk x1 16 ((chk x1 16 ((ob (F_Model_bits R x2 I) (fun v14 => (if (((I (R a0 18) x1.toNatClampNeg) ||| (I (R a0 19) x1.toNatClampNeg)) &&& v14) = 0 then some (0 : Int32) else some (1 : Int32))))))))
set_option maxHeartbeats 4000000 in
set_option maxRecDepth 100000 in
theorem c_Model_touches (l : Launch) {g : Sg} {R : Nat → Nat → Nat} (hT : Ty g R) {a0 : Nat} (o0 : okA g 5 0 a0) {x1 : Int32} {x2 : Int32} {I : St} {v : Int32} (h : F_Model_touches R a0 x1 x2 I = some v) : Cti l g R y_Model_touches w_Model_touches 1 20 [.ref a0, .int x1, .int x2] I v I := by
  unfold Cti
  refine Met.ofW (cc := b_Model_touches) (maxL := 3) (ret := (some .boolean)) (by decide) rfl ?_
  intro p e s m args below meth c s₁ B hml hv
  obtain ⟨rfl, hP, hK⟩ := hv
  have hts := atoms_spec (ws := w_Model_touches) B.pre
  have hall : ∀ w ∈ w_all, w.before _ s = true := fun w hw => hts w (List.mem_cons_of_mem _ hw)
  have hown : s.vm.findClass R_Model = some m.cls := findClass_of_methodNamed B.named
  have hx := B.exec
  have hb := B.bytes
  have hr := B.returns
  have hlk := B.notSynchronized
  have cx : Cx p s m _ meth c g R R_Model b_Model_touches 3 (some .boolean) := ⟨hx, hb, hml, hr, hlk, hown, hall, hT, hK⟩
  have hl := lv_entry ([.ref a0, .int x1, .int x2]) (n := 3) (Nat.le_of_ble_eq_true rfl)
  rw [lg_entry_eq]
  generalize (lg_sl ([.ref a0, .int x1, .int x2]) ++ List.replicate (3 - (lg_sl ([.ref a0, .int x1, .int x2])).length) Slot.unset).toArray = ls at hl ⊢
  have hl : lv_has ls 3 [(0, .ref a0), (1, .int x1), (2, .int x2)] := hl
  have hS : va_S (· ∈ g.L) s.heap s.heap [] := va_S.rf
  unfold F_Model_touches at h
  refine lv_aload_n hx hb d_Model_touches_0 rfl (lv_at hl 0 rfl) ?_
  refine gg_get (C := R_Model) (T := F_Model) (N := 23) (ci := 5) hx hb hall i_Model hown hK hP o0.1 (wE_5 o0.2) rfl 18 (by decide) (hall _ m_422) (fun _ h9 => h9) rfl d_Model_touches_1 ?_
  have o_1 : okA g 6 16 (R a0 18) := ty_Model_18 hT o0
  refine lv_iload_n hx hb d_Model_touches_4 rfl (lv_at hl 1 rfl) ?_
  obtain ⟨hi5, h⟩ := chk_el h
  refine gg_iald hx hb hK hP o_1 hi5 d_Model_touches_5 ?_
  refine lv_aload_n hx hb d_Model_touches_6 rfl (lv_at hl 0 rfl) ?_
  refine gg_get (C := R_Model) (T := F_Model) (N := 23) (ci := 5) hx hb hall i_Model hown hK hP o0.1 (wE_5 o0.2) rfl 19 (by decide) (hall _ m_423) (fun _ h9 => h9) rfl d_Model_touches_7 ?_
  have o_7 : okA g 6 16 (R a0 19) := ty_Model_19 hT o0
  refine lv_iload_n hx hb d_Model_touches_10 rfl (lv_at hl 1 rfl) ?_
  obtain ⟨hi11, h⟩ := chk_el h
  refine gg_iald hx hb hK hP o_7 hi11 d_Model_touches_11 ?_
  refine lv_ior hx hb d_Model_touches_12 ?_
  refine lv_iload_n hx hb d_Model_touches_13 rfl (lv_at hl 2 rfl) ?_
  obtain ⟨v14, e14, h⟩ := ob_el h
  refine gg_Si (As := [.int x2]) (rest := [.int ((I (R a0 18) x1.toNatClampNeg) ||| (I (R a0 19) x1.toNatClampNeg))]) ⟨hx, hb, hml, hown, hall⟩ (c_Model_bits l hT e14) (cwS 1 hall (gS m_424 m_425 m_338 m_421) rfl rfl rfl (by decide +kernel) ⟨Nat.le_of_ble_eq_true rfl, Nat.le_of_ble_eq_true rfl⟩) hK hP hS rfl hl.1 rfl (Nat.le_of_ble_eq_true rfl) d_Model_touches_14 (fun H locs hP hS => ?_)
  refine lv_iand hx hb d_Model_touches_17 ?_
  refine lv_if_eq hx hb d_Model_touches_18 rfl (fun hc => ?_) (fun hc => ?_)
  · replace h := i_pos hc h
    refine lv_iconst (v := 0) hx hb d_Model_touches_25 (by decide) ?_
    obtain rfl := Option.some.inj h
    exact gg_zret hx hb hr hlk rfl hK hP hS d_Model_touches_26
  · replace h := i_neg hc h
    refine lv_iconst (v := 1) hx hb d_Model_touches_21 (by decide) ?_
    refine lv_goto hx hb d_Model_touches_22 rfl ?_
    obtain rfl := Option.some.inj h
    exact gg_zret hx hb hr hlk rfl hK hP hS d_Model_touches_26
abbrev b_Model_holds : ByteArray := prog_7_method_31_code
def y_Model_holds : MethodName := ⟨"StampedStoreModel", "holds", "(II)Z"⟩
def w_Model_holds : List Cond := .code y_Model_holds b_Model_holds 4 (some .boolean) :: w_all
theorem d_Model_holds_0 : decode b_Model_holds 0 = .ok (.aload_n 0, 1) := by decide +kernel
theorem d_Model_holds_1 : decode b_Model_holds 1 = .ok (.iload_n 2, 1) := by decide +kernel
theorem d_Model_holds_2 : decode b_Model_holds 2 = .ok (.invokevirtual 93, 3) := by decide +kernel
theorem d_Model_holds_5 : decode b_Model_holds 5 = .ok (.istore_n 3, 1) := by decide +kernel
theorem d_Model_holds_6 : decode b_Model_holds 6 = .ok (.aload_n 0, 1) := by decide +kernel
theorem d_Model_holds_7 : decode b_Model_holds 7 = .ok (.getfield 56, 3) := by decide +kernel
theorem d_Model_holds_10 : decode b_Model_holds 10 = .ok (.iload_n 1, 1) := by decide +kernel
theorem d_Model_holds_11 : decode b_Model_holds 11 = .ok (.iaload, 1) := by decide +kernel
theorem d_Model_holds_12 : decode b_Model_holds 12 = .ok (.iload_n 2, 1) := by decide +kernel
theorem d_Model_holds_13 : decode b_Model_holds 13 = .ok (.invokestatic 138, 3) := by decide +kernel
theorem d_Model_holds_16 : decode b_Model_holds 16 = .ok (.iand, 1) := by decide +kernel
theorem d_Model_holds_17 : decode b_Model_holds 17 = .ok (.ifCond .eq 30, 3) := by decide +kernel
theorem d_Model_holds_20 : decode b_Model_holds 20 = .ok (.iload_n 3, 1) := by decide +kernel
theorem d_Model_holds_21 : decode b_Model_holds 21 = .ok (.ifCond .lt 26, 3) := by decide +kernel
theorem d_Model_holds_24 : decode b_Model_holds 24 = .ok (.aload_n 0, 1) := by decide +kernel
theorem d_Model_holds_25 : decode b_Model_holds 25 = .ok (.getfield 17, 3) := by decide +kernel
theorem d_Model_holds_28 : decode b_Model_holds 28 = .ok (.iload_n 3, 1) := by decide +kernel
theorem d_Model_holds_29 : decode b_Model_holds 29 = .ok (.iaload, 1) := by decide +kernel
theorem d_Model_holds_30 : decode b_Model_holds 30 = .ok (.aload_n 0, 1) := by decide +kernel
theorem d_Model_holds_31 : decode b_Model_holds 31 = .ok (.getfield 65, 3) := by decide +kernel
theorem d_Model_holds_34 : decode b_Model_holds 34 = .ok (.iconst 2, 1) := by decide +kernel
theorem d_Model_holds_35 : decode b_Model_holds 35 = .ok (.iload_n 1, 1) := by decide +kernel
theorem d_Model_holds_36 : decode b_Model_holds 36 = .ok (.imul, 1) := by decide +kernel
theorem d_Model_holds_37 : decode b_Model_holds 37 = .ok (.iload_n 2, 1) := by decide +kernel
theorem d_Model_holds_38 : decode b_Model_holds 38 = .ok (.iadd, 1) := by decide +kernel
theorem d_Model_holds_39 : decode b_Model_holds 39 = .ok (.iaload, 1) := by decide +kernel
theorem d_Model_holds_40 : decode b_Model_holds 40 = .ok (.if_icmp .ne 7, 3) := by decide +kernel
theorem d_Model_holds_43 : decode b_Model_holds 43 = .ok (.iconst 1, 1) := by decide +kernel
theorem d_Model_holds_44 : decode b_Model_holds 44 = .ok (.goto 4, 3) := by decide +kernel
theorem d_Model_holds_47 : decode b_Model_holds 47 = .ok (.iconst 0, 1) := by decide +kernel
theorem d_Model_holds_48 : decode b_Model_holds 48 = .ok (.ireturn, 1) := by decide +kernel
def B_Model_holds_47 (R : Nat → Nat → Nat) (I : St) : Option Int32 := some (0 : Int32)
set_option maxHeartbeats 4000000 in
set_option maxRecDepth 100000 in
theorem b_Model_holds_47 {p : Program} {l : Launch} {e : Env} {s : State} {m : MethodId} {args : Array Value} {below : List Frame} {meth : Method} {c : Code} {g : Sg} {R : Nat → Nat → Nat} {I : St} {v : Int32} (cx : Cx p s m args meth c g R R_Model b_Model_holds 4 (some .boolean)) : ∀ (H : Heap) (locs : List Loc) (ls : Array Slot), B_Model_holds_47 R I = some v → wW g R I H → va_S (· ∈ g.L) s.heap H locs → lv_has ls 4 [] → W p l e { frames := 4, cells := 0, slots := 0, locals := 87 } s m args below meth c H locs 0 0 (MQ below (Qi g R v I) args s 0 0 (· ∈ g.L)) (F0 m 47 ls []) := by
  have ⟨hx, hb, hml, hr, hlk, hown, hall, hT, hK⟩ := cx
  intro H locs ls h hP hS hl
  unfold B_Model_holds_47 at h
  refine lv_iconst (v := 0) hx hb d_Model_holds_47 (by decide) ?_
  obtain rfl := Option.some.inj h
  exact gg_zret hx hb hr hlk rfl hK hP hS d_Model_holds_48
def F_Model_holds (R : Nat → Nat → Nat) (a0 : Nat) (x1 : Int32) (x2 : Int32) (I : St) : Option Int32 := (ob (F_Model_ready R a0 x2 I) (fun v2 => (chk x1 16 ((ob (F_Model_bits R x2 I) (fun v13 => (if ((I (R a0 18) x1.toNatClampNeg) &&& v13) = 0 then B_Model_holds_47 R I else (if v2 < 0 then B_Model_holds_47 R I else (chk v2 6 ((chk (((2 : Int32) * x1) + x2) 32 ((if (I (R a0 4) v2.toNatClampNeg) = (I (R a0 21) (((2 : Int32) * x1) + x2).toNatClampNeg) then some (1 : Int32) else B_Model_holds_47 R I)))))))))))))
set_option maxHeartbeats 4000000 in
set_option maxRecDepth 100000 in
theorem c_Model_holds (l : Launch) {g : Sg} {R : Nat → Nat → Nat} (hT : Ty g R) {a0 : Nat} (o0 : okA g 5 0 a0) {x1 : Int32} {x2 : Int32} {I : St} {v : Int32} (h : F_Model_holds R a0 x1 x2 I = some v) : Cti l g R y_Model_holds w_Model_holds 4 87 [.ref a0, .int x1, .int x2] I v I := by
  unfold Cti
  refine Met.ofW (cc := b_Model_holds) (maxL := 4) (ret := (some .boolean)) (by decide) rfl ?_
  intro p e s m args below meth c s₁ B hml hv
  obtain ⟨rfl, hP, hK⟩ := hv
  have hts := atoms_spec (ws := w_Model_holds) B.pre
  have hall : ∀ w ∈ w_all, w.before _ s = true := fun w hw => hts w (List.mem_cons_of_mem _ hw)
  have hown : s.vm.findClass R_Model = some m.cls := findClass_of_methodNamed B.named
  have hx := B.exec
  have hb := B.bytes
  have hr := B.returns
  have hlk := B.notSynchronized
  have cx : Cx p s m _ meth c g R R_Model b_Model_holds 4 (some .boolean) := ⟨hx, hb, hml, hr, hlk, hown, hall, hT, hK⟩
  have hl := lv_entry ([.ref a0, .int x1, .int x2]) (n := 4) (Nat.le_of_ble_eq_true rfl)
  rw [lg_entry_eq]
  generalize (lg_sl ([.ref a0, .int x1, .int x2]) ++ List.replicate (4 - (lg_sl ([.ref a0, .int x1, .int x2])).length) Slot.unset).toArray = ls at hl ⊢
  have hl : lv_has ls 4 [(0, .ref a0), (1, .int x1), (2, .int x2)] := hl
  have hS : va_S (· ∈ g.L) s.heap s.heap [] := va_S.rf
  unfold F_Model_holds at h
  refine lv_aload_n hx hb d_Model_holds_0 rfl (lv_at hl 0 rfl) ?_
  refine lv_iload_n hx hb d_Model_holds_1 rfl (lv_at hl 2 rfl) ?_
  obtain ⟨v2, e2, h⟩ := ob_el h
  refine gg_Vi (As := [.int x2]) (rest := []) (ci := 5) (C := R_Model) (T := F_Model) (N := 23) ⟨hx, hb, hml, hown, hall⟩ (c_Model_ready l hT o0 e2) (cwV 1 hall (gV m_360 m_361 m_362 m_338 m_359) rfl rfl rfl (by decide +kernel) ⟨Nat.le_of_ble_eq_true rfl, Nat.le_of_ble_eq_true rfl⟩) hK hP hS o0.1 (wE_5 o0.2) rfl rfl hl.1 rfl (Nat.le_of_ble_eq_true rfl) d_Model_holds_2 (fun H locs hP hS => ?_)
  refine lv_istore_n (lv' := [(3, .int v2), (0, .ref a0), (1, .int x1), (2, .int x2)]) hx hb d_Model_holds_5 rfl hl (Nat.le_of_ble_eq_true rfl) rfl (fun ls hl => ?_)
  refine lv_aload_n hx hb d_Model_holds_6 rfl (lv_at hl 1 rfl) ?_
  refine gg_get (C := R_Model) (T := F_Model) (N := 23) (ci := 5) hx hb hall i_Model hown hK hP o0.1 (wE_5 o0.2) rfl 18 (by decide) (hall _ m_422) (fun _ h9 => h9) rfl d_Model_holds_7 ?_
  have o_7 : okA g 6 16 (R a0 18) := ty_Model_18 hT o0
  refine lv_iload_n hx hb d_Model_holds_10 rfl (lv_at hl 2 rfl) ?_
  obtain ⟨hi11, h⟩ := chk_el h
  refine gg_iald hx hb hK hP o_7 hi11 d_Model_holds_11 ?_
  refine lv_iload_n hx hb d_Model_holds_12 rfl (lv_at hl 3 rfl) ?_
  obtain ⟨v13, e13, h⟩ := ob_el h
  refine gg_Si (As := [.int x2]) (rest := [.int (I (R a0 18) x1.toNatClampNeg)]) ⟨hx, hb, hml, hown, hall⟩ (c_Model_bits l hT e13) (cwS 1 hall (gS m_424 m_425 m_338 m_421) rfl rfl rfl (by decide +kernel) ⟨Nat.le_of_ble_eq_true rfl, Nat.le_of_ble_eq_true rfl⟩) hK hP hS rfl hl.1 rfl (Nat.le_of_ble_eq_true rfl) d_Model_holds_13 (fun H locs hP hS => ?_)
  refine lv_iand hx hb d_Model_holds_16 ?_
  refine lv_if_eq hx hb d_Model_holds_17 rfl (fun hc => ?_) (fun hc => ?_)
  · replace h := i_pos hc h
    exact b_Model_holds_47 cx _ _ _ h hP hS (lv_sub hl [] rfl)
  · replace h := i_neg hc h
    refine lv_iload_n hx hb d_Model_holds_20 rfl (lv_at hl 0 rfl) ?_
    refine lv_if_lt hx hb d_Model_holds_21 rfl (fun hc => ?_) (fun hc => ?_)
    · replace h := i_pos hc h
      exact b_Model_holds_47 cx _ _ _ h hP hS (lv_sub hl [] rfl)
    · replace h := i_neg hc h
      refine lv_aload_n hx hb d_Model_holds_24 rfl (lv_at hl 1 rfl) ?_
      refine gg_get (C := R_Model) (T := F_Model) (N := 23) (ci := 5) hx hb hall i_Model hown hK hP o0.1 (wE_5 o0.2) rfl 4 (by decide) (hall _ m_354) (fun _ h9 => h9) rfl d_Model_holds_25 ?_
      have o_25 : okA g 6 6 (R a0 4) := ty_Model_4 hT o0
      refine lv_iload_n hx hb d_Model_holds_28 rfl (lv_at hl 0 rfl) ?_
      obtain ⟨hi29, h⟩ := chk_el h
      refine gg_iald hx hb hK hP o_25 hi29 d_Model_holds_29 ?_
      refine lv_aload_n hx hb d_Model_holds_30 rfl (lv_at hl 1 rfl) ?_
      refine gg_get (C := R_Model) (T := F_Model) (N := 23) (ci := 5) hx hb hall i_Model hown hK hP o0.1 (wE_5 o0.2) rfl 21 (by decide) (hall _ m_427) (fun _ h9 => h9) rfl d_Model_holds_31 ?_
      have o_31 : okA g 6 32 (R a0 21) := ty_Model_21 hT o0
      refine lv_iconst (v := 2) hx hb d_Model_holds_34 (by decide) ?_
      refine lv_iload_n hx hb d_Model_holds_35 rfl (lv_at hl 2 rfl) ?_
      refine lv_imul hx hb d_Model_holds_36 ?_
      refine lv_iload_n hx hb d_Model_holds_37 rfl (lv_at hl 3 rfl) ?_
      refine lv_iadd hx hb d_Model_holds_38 ?_
      obtain ⟨hi39, h⟩ := chk_el h
      refine gg_iald hx hb hK hP o_31 hi39 d_Model_holds_39 ?_
      refine lv_icmp_ne hx hb d_Model_holds_40 rfl (fun hc => ?_) (fun hc => ?_)
      · replace h := i_neg hc h
        exact b_Model_holds_47 cx _ _ _ h hP hS (lv_sub hl [] rfl)
      · replace h := i_pos hc h
        refine lv_iconst (v := 1) hx hb d_Model_holds_43 (by decide) ?_
        refine lv_goto hx hb d_Model_holds_44 rfl ?_
        obtain rfl := Option.some.inj h
        exact gg_zret hx hb hr hlk rfl hK hP hS d_Model_holds_48
abbrev b_Model_lost : ByteArray := prog_7_method_32_code
def y_Model_lost : MethodName := ⟨"StampedStoreModel", "lost", "(II)Z"⟩
def w_Model_lost : List Cond := .code y_Model_lost b_Model_lost 3 (some .boolean) :: w_all
theorem d_Model_lost_0 : decode b_Model_lost 0 = .ok (.aload_n 0, 1) := by decide +kernel
theorem d_Model_lost_1 : decode b_Model_lost 1 = .ok (.getfield 56, 3) := by decide +kernel
theorem d_Model_lost_4 : decode b_Model_lost 4 = .ok (.iload_n 1, 1) := by decide +kernel
theorem d_Model_lost_5 : decode b_Model_lost 5 = .ok (.iaload, 1) := by decide +kernel
theorem d_Model_lost_6 : decode b_Model_lost 6 = .ok (.iload_n 2, 1) := by decide +kernel
theorem d_Model_lost_7 : decode b_Model_lost 7 = .ok (.invokestatic 138, 3) := by decide +kernel
theorem d_Model_lost_10 : decode b_Model_lost 10 = .ok (.iand, 1) := by decide +kernel
theorem d_Model_lost_11 : decode b_Model_lost 11 = .ok (.ifCond .eq 16, 3) := by decide +kernel
theorem d_Model_lost_14 : decode b_Model_lost 14 = .ok (.aload_n 0, 1) := by decide +kernel
theorem d_Model_lost_15 : decode b_Model_lost 15 = .ok (.iload_n 1, 1) := by decide +kernel
theorem d_Model_lost_16 : decode b_Model_lost 16 = .ok (.iload_n 2, 1) := by decide +kernel
theorem d_Model_lost_17 : decode b_Model_lost 17 = .ok (.invokevirtual 141, 3) := by decide +kernel
theorem d_Model_lost_20 : decode b_Model_lost 20 = .ok (.ifCond .ne 7, 3) := by decide +kernel
theorem d_Model_lost_23 : decode b_Model_lost 23 = .ok (.iconst 1, 1) := by decide +kernel
theorem d_Model_lost_24 : decode b_Model_lost 24 = .ok (.goto 4, 3) := by decide +kernel
theorem d_Model_lost_27 : decode b_Model_lost 27 = .ok (.iconst 0, 1) := by decide +kernel
theorem d_Model_lost_28 : decode b_Model_lost 28 = .ok (.ireturn, 1) := by decide +kernel
def B_Model_lost_27 (R : Nat → Nat → Nat) (I : St) : Option Int32 := some (0 : Int32)
set_option maxHeartbeats 4000000 in
set_option maxRecDepth 100000 in
theorem b_Model_lost_27 {p : Program} {l : Launch} {e : Env} {s : State} {m : MethodId} {args : Array Value} {below : List Frame} {meth : Method} {c : Code} {g : Sg} {R : Nat → Nat → Nat} {I : St} {v : Int32} (cx : Cx p s m args meth c g R R_Model b_Model_lost 3 (some .boolean)) : ∀ (H : Heap) (locs : List Loc) (ls : Array Slot), B_Model_lost_27 R I = some v → wW g R I H → va_S (· ∈ g.L) s.heap H locs → lv_has ls 3 [] → W p l e { frames := 5, cells := 0, slots := 0, locals := 110 } s m args below meth c H locs 0 0 (MQ below (Qi g R v I) args s 0 0 (· ∈ g.L)) (F0 m 27 ls []) := by
  have ⟨hx, hb, hml, hr, hlk, hown, hall, hT, hK⟩ := cx
  intro H locs ls h hP hS hl
  unfold B_Model_lost_27 at h
  refine lv_iconst (v := 0) hx hb d_Model_lost_27 (by decide) ?_
  obtain rfl := Option.some.inj h
  exact gg_zret hx hb hr hlk rfl hK hP hS d_Model_lost_28
def F_Model_lost (R : Nat → Nat → Nat) (a0 : Nat) (x1 : Int32) (x2 : Int32) (I : St) : Option Int32 := (chk x1 16 ((ob (F_Model_bits R x2 I) (fun v7 => (if ((I (R a0 18) x1.toNatClampNeg) &&& v7) = 0 then B_Model_lost_27 R I else (ob (F_Model_holds R a0 x1 x2 I) (fun v17 => (if v17 = 0 then some (1 : Int32) else B_Model_lost_27 R I))))))))
set_option maxHeartbeats 4000000 in
set_option maxRecDepth 100000 in
theorem c_Model_lost (l : Launch) {g : Sg} {R : Nat → Nat → Nat} (hT : Ty g R) {a0 : Nat} (o0 : okA g 5 0 a0) {x1 : Int32} {x2 : Int32} {I : St} {v : Int32} (h : F_Model_lost R a0 x1 x2 I = some v) : Cti l g R y_Model_lost w_Model_lost 5 110 [.ref a0, .int x1, .int x2] I v I := by
  unfold Cti
  refine Met.ofW (cc := b_Model_lost) (maxL := 3) (ret := (some .boolean)) (by decide) rfl ?_
  intro p e s m args below meth c s₁ B hml hv
  obtain ⟨rfl, hP, hK⟩ := hv
  have hts := atoms_spec (ws := w_Model_lost) B.pre
  have hall : ∀ w ∈ w_all, w.before _ s = true := fun w hw => hts w (List.mem_cons_of_mem _ hw)
  have hown : s.vm.findClass R_Model = some m.cls := findClass_of_methodNamed B.named
  have hx := B.exec
  have hb := B.bytes
  have hr := B.returns
  have hlk := B.notSynchronized
  have cx : Cx p s m _ meth c g R R_Model b_Model_lost 3 (some .boolean) := ⟨hx, hb, hml, hr, hlk, hown, hall, hT, hK⟩
  have hl := lv_entry ([.ref a0, .int x1, .int x2]) (n := 3) (Nat.le_of_ble_eq_true rfl)
  rw [lg_entry_eq]
  generalize (lg_sl ([.ref a0, .int x1, .int x2]) ++ List.replicate (3 - (lg_sl ([.ref a0, .int x1, .int x2])).length) Slot.unset).toArray = ls at hl ⊢
  have hl : lv_has ls 3 [(0, .ref a0), (1, .int x1), (2, .int x2)] := hl
  have hS : va_S (· ∈ g.L) s.heap s.heap [] := va_S.rf
  unfold F_Model_lost at h
  refine lv_aload_n hx hb d_Model_lost_0 rfl (lv_at hl 0 rfl) ?_
  refine gg_get (C := R_Model) (T := F_Model) (N := 23) (ci := 5) hx hb hall i_Model hown hK hP o0.1 (wE_5 o0.2) rfl 18 (by decide) (hall _ m_422) (fun _ h9 => h9) rfl d_Model_lost_1 ?_
  have o_1 : okA g 6 16 (R a0 18) := ty_Model_18 hT o0
  refine lv_iload_n hx hb d_Model_lost_4 rfl (lv_at hl 1 rfl) ?_
  obtain ⟨hi5, h⟩ := chk_el h
  refine gg_iald hx hb hK hP o_1 hi5 d_Model_lost_5 ?_
  refine lv_iload_n hx hb d_Model_lost_6 rfl (lv_at hl 2 rfl) ?_
  obtain ⟨v7, e7, h⟩ := ob_el h
  refine gg_Si (As := [.int x2]) (rest := [.int (I (R a0 18) x1.toNatClampNeg)]) ⟨hx, hb, hml, hown, hall⟩ (c_Model_bits l hT e7) (cwS 1 hall (gS m_424 m_425 m_338 m_421) rfl rfl rfl (by decide +kernel) ⟨Nat.le_of_ble_eq_true rfl, Nat.le_of_ble_eq_true rfl⟩) hK hP hS rfl hl.1 rfl (Nat.le_of_ble_eq_true rfl) d_Model_lost_7 (fun H locs hP hS => ?_)
  refine lv_iand hx hb d_Model_lost_10 ?_
  refine lv_if_eq hx hb d_Model_lost_11 rfl (fun hc => ?_) (fun hc => ?_)
  · replace h := i_pos hc h
    exact b_Model_lost_27 cx _ _ _ h hP hS (lv_sub hl [] rfl)
  · replace h := i_neg hc h
    refine lv_aload_n hx hb d_Model_lost_14 rfl (lv_at hl 0 rfl) ?_
    refine lv_iload_n hx hb d_Model_lost_15 rfl (lv_at hl 1 rfl) ?_
    refine lv_iload_n hx hb d_Model_lost_16 rfl (lv_at hl 2 rfl) ?_
    obtain ⟨v17, e17, h⟩ := ob_el h
    refine gg_Vi (As := [.int x1, .int x2]) (rest := []) (ci := 5) (C := R_Model) (T := F_Model) (N := 23) ⟨hx, hb, hml, hown, hall⟩ (c_Model_holds l hT o0 e17) (cwV 2 hall (gV m_429 m_430 m_431 m_338 m_428) rfl rfl rfl (by decide +kernel) ⟨Nat.le_of_ble_eq_true rfl, Nat.le_of_ble_eq_true rfl⟩) hK hP hS o0.1 (wE_5 o0.2) rfl rfl hl.1 rfl (Nat.le_of_ble_eq_true rfl) d_Model_lost_17 (fun H locs hP hS => ?_)
    refine lv_if_ne hx hb d_Model_lost_20 rfl (fun hc => ?_) (fun hc => ?_)
    · replace h := i_neg hc h
      exact b_Model_lost_27 cx _ _ _ h hP hS (lv_sub hl [] rfl)
    · replace h := i_pos hc h
      refine lv_iconst (v := 1) hx hb d_Model_lost_23 (by decide) ?_
      refine lv_goto hx hb d_Model_lost_24 rfl ?_
      obtain rfl := Option.some.inj h
      exact gg_zret hx hb hr hlk rfl hK hP hS d_Model_lost_28
abbrev b_Model_logHolds : ByteArray := prog_7_method_33_code
def y_Model_logHolds : MethodName := ⟨"StampedStoreModel", "logHolds", "(III)Z"⟩
def w_Model_logHolds : List Cond := .code y_Model_logHolds b_Model_logHolds 6 (some .boolean) :: w_all
theorem d_Model_logHolds_0 : decode b_Model_logHolds 0 = .ok (.aload_n 0, 1) := by decide +kernel
theorem d_Model_logHolds_1 : decode b_Model_logHolds 1 = .ok (.iload_n 1, 1) := by decide +kernel
theorem d_Model_logHolds_2 : decode b_Model_logHolds 2 = .ok (.iload_n 2, 1) := by decide +kernel
theorem d_Model_logHolds_3 : decode b_Model_logHolds 3 = .ok (.iconst 1, 1) := by decide +kernel
theorem d_Model_logHolds_4 : decode b_Model_logHolds 4 = .ok (.invokevirtual 144, 3) := by decide +kernel
theorem d_Model_logHolds_7 : decode b_Model_logHolds 7 = .ok (.ifCond .eq 27, 3) := by decide +kernel
theorem d_Model_logHolds_10 : decode b_Model_logHolds 10 = .ok (.aload_n 0, 1) := by decide +kernel
theorem d_Model_logHolds_11 : decode b_Model_logHolds 11 = .ok (.iload_n 1, 1) := by decide +kernel
theorem d_Model_logHolds_12 : decode b_Model_logHolds 12 = .ok (.iload_n 2, 1) := by decide +kernel
theorem d_Model_logHolds_13 : decode b_Model_logHolds 13 = .ok (.iconst 2, 1) := by decide +kernel
theorem d_Model_logHolds_14 : decode b_Model_logHolds 14 = .ok (.invokevirtual 147, 3) := by decide +kernel
theorem d_Model_logHolds_17 : decode b_Model_logHolds 17 = .ok (.ifCond .ne 17, 3) := by decide +kernel
theorem d_Model_logHolds_20 : decode b_Model_logHolds 20 = .ok (.aload_n 0, 1) := by decide +kernel
theorem d_Model_logHolds_21 : decode b_Model_logHolds 21 = .ok (.iload_n 1, 1) := by decide +kernel
theorem d_Model_logHolds_22 : decode b_Model_logHolds 22 = .ok (.iload_n 2, 1) := by decide +kernel
theorem d_Model_logHolds_23 : decode b_Model_logHolds 23 = .ok (.iconst 3, 1) := by decide +kernel
theorem d_Model_logHolds_24 : decode b_Model_logHolds 24 = .ok (.invokevirtual 147, 3) := by decide +kernel
theorem d_Model_logHolds_27 : decode b_Model_logHolds 27 = .ok (.ifCond .ne 7, 3) := by decide +kernel
theorem d_Model_logHolds_30 : decode b_Model_logHolds 30 = .ok (.iconst 1, 1) := by decide +kernel
theorem d_Model_logHolds_31 : decode b_Model_logHolds 31 = .ok (.goto 4, 3) := by decide +kernel
theorem d_Model_logHolds_34 : decode b_Model_logHolds 34 = .ok (.iconst 0, 1) := by decide +kernel
theorem d_Model_logHolds_35 : decode b_Model_logHolds 35 = .ok (.istore 4, 2) := by decide +kernel
theorem d_Model_logHolds_37 : decode b_Model_logHolds 37 = .ok (.aload_n 0, 1) := by decide +kernel
theorem d_Model_logHolds_38 : decode b_Model_logHolds 38 = .ok (.iload_n 1, 1) := by decide +kernel
theorem d_Model_logHolds_39 : decode b_Model_logHolds 39 = .ok (.iload_n 2, 1) := by decide +kernel
theorem d_Model_logHolds_40 : decode b_Model_logHolds 40 = .ok (.iconst 2, 1) := by decide +kernel
theorem d_Model_logHolds_41 : decode b_Model_logHolds 41 = .ok (.invokevirtual 144, 3) := by decide +kernel
theorem d_Model_logHolds_44 : decode b_Model_logHolds 44 = .ok (.ifCond .eq 17, 3) := by decide +kernel
theorem d_Model_logHolds_47 : decode b_Model_logHolds 47 = .ok (.aload_n 0, 1) := by decide +kernel
theorem d_Model_logHolds_48 : decode b_Model_logHolds 48 = .ok (.iload_n 1, 1) := by decide +kernel
theorem d_Model_logHolds_49 : decode b_Model_logHolds 49 = .ok (.iload_n 2, 1) := by decide +kernel
theorem d_Model_logHolds_50 : decode b_Model_logHolds 50 = .ok (.iconst 2, 1) := by decide +kernel
theorem d_Model_logHolds_51 : decode b_Model_logHolds 51 = .ok (.invokevirtual 147, 3) := by decide +kernel
theorem d_Model_logHolds_54 : decode b_Model_logHolds 54 = .ok (.ifCond .ne 7, 3) := by decide +kernel
theorem d_Model_logHolds_57 : decode b_Model_logHolds 57 = .ok (.iconst 1, 1) := by decide +kernel
theorem d_Model_logHolds_58 : decode b_Model_logHolds 58 = .ok (.goto 4, 3) := by decide +kernel
theorem d_Model_logHolds_61 : decode b_Model_logHolds 61 = .ok (.iconst 0, 1) := by decide +kernel
theorem d_Model_logHolds_62 : decode b_Model_logHolds 62 = .ok (.istore 5, 2) := by decide +kernel
theorem d_Model_logHolds_64 : decode b_Model_logHolds 64 = .ok (.aload_n 0, 1) := by decide +kernel
theorem d_Model_logHolds_65 : decode b_Model_logHolds 65 = .ok (.getfield 56, 3) := by decide +kernel
theorem d_Model_logHolds_68 : decode b_Model_logHolds 68 = .ok (.iload_n 2, 1) := by decide +kernel
theorem d_Model_logHolds_69 : decode b_Model_logHolds 69 = .ok (.iaload, 1) := by decide +kernel
theorem d_Model_logHolds_70 : decode b_Model_logHolds 70 = .ok (.aload_n 0, 1) := by decide +kernel
theorem d_Model_logHolds_71 : decode b_Model_logHolds 71 = .ok (.getfield 59, 3) := by decide +kernel
theorem d_Model_logHolds_74 : decode b_Model_logHolds 74 = .ok (.iload_n 2, 1) := by decide +kernel
theorem d_Model_logHolds_75 : decode b_Model_logHolds 75 = .ok (.iaload, 1) := by decide +kernel
theorem d_Model_logHolds_76 : decode b_Model_logHolds 76 = .ok (.ior, 1) := by decide +kernel
theorem d_Model_logHolds_77 : decode b_Model_logHolds 77 = .ok (.iload_n 3, 1) := by decide +kernel
theorem d_Model_logHolds_78 : decode b_Model_logHolds 78 = .ok (.ishr, 1) := by decide +kernel
theorem d_Model_logHolds_79 : decode b_Model_logHolds 79 = .ok (.iconst 1, 1) := by decide +kernel
theorem d_Model_logHolds_80 : decode b_Model_logHolds 80 = .ok (.iand, 1) := by decide +kernel
theorem d_Model_logHolds_81 : decode b_Model_logHolds 81 = .ok (.iconst 1, 1) := by decide +kernel
theorem d_Model_logHolds_82 : decode b_Model_logHolds 82 = .ok (.if_icmp .ne 17, 3) := by decide +kernel
theorem d_Model_logHolds_85 : decode b_Model_logHolds 85 = .ok (.iload 4, 2) := by decide +kernel
theorem d_Model_logHolds_87 : decode b_Model_logHolds 87 = .ok (.ifCond .ne 8, 3) := by decide +kernel
theorem d_Model_logHolds_90 : decode b_Model_logHolds 90 = .ok (.iload 5, 2) := by decide +kernel
theorem d_Model_logHolds_92 : decode b_Model_logHolds 92 = .ok (.ifCond .eq 7, 3) := by decide +kernel
theorem d_Model_logHolds_95 : decode b_Model_logHolds 95 = .ok (.iconst 1, 1) := by decide +kernel
theorem d_Model_logHolds_96 : decode b_Model_logHolds 96 = .ok (.goto 4, 3) := by decide +kernel
theorem d_Model_logHolds_99 : decode b_Model_logHolds 99 = .ok (.iconst 0, 1) := by decide +kernel
theorem d_Model_logHolds_100 : decode b_Model_logHolds 100 = .ok (.ireturn, 1) := by decide +kernel
def B_Model_logHolds_99 (R : Nat → Nat → Nat) (I : St) : Option Int32 := some (0 : Int32)
set_option maxHeartbeats 4000000 in
set_option maxRecDepth 100000 in
theorem b_Model_logHolds_99 {p : Program} {l : Launch} {e : Env} {s : State} {m : MethodId} {args : Array Value} {below : List Frame} {meth : Method} {c : Code} {g : Sg} {R : Nat → Nat → Nat} {I : St} {v : Int32} (cx : Cx p s m args meth c g R R_Model b_Model_logHolds 6 (some .boolean)) : ∀ (H : Heap) (locs : List Loc) (ls : Array Slot), B_Model_logHolds_99 R I = some v → wW g R I H → va_S (· ∈ g.L) s.heap H locs → lv_has ls 6 [] → W p l e { frames := 2, cells := 0, slots := 0, locals := 49 } s m args below meth c H locs 0 0 (MQ below (Qi g R v I) args s 0 0 (· ∈ g.L)) (F0 m 99 ls []) := by
  have ⟨hx, hb, hml, hr, hlk, hown, hall, hT, hK⟩ := cx
  intro H locs ls h hP hS hl
  unfold B_Model_logHolds_99 at h
  refine lv_iconst (v := 0) hx hb d_Model_logHolds_99 (by decide) ?_
  obtain rfl := Option.some.inj h
  exact gg_zret hx hb hr hlk rfl hK hP hS d_Model_logHolds_100
def B_Model_logHolds_95 (R : Nat → Nat → Nat) (I : St) : Option Int32 := some (1 : Int32)
set_option maxHeartbeats 4000000 in
set_option maxRecDepth 100000 in
theorem b_Model_logHolds_95 {p : Program} {l : Launch} {e : Env} {s : State} {m : MethodId} {args : Array Value} {below : List Frame} {meth : Method} {c : Code} {g : Sg} {R : Nat → Nat → Nat} {I : St} {v : Int32} (cx : Cx p s m args meth c g R R_Model b_Model_logHolds 6 (some .boolean)) : ∀ (H : Heap) (locs : List Loc) (ls : Array Slot), B_Model_logHolds_95 R I = some v → wW g R I H → va_S (· ∈ g.L) s.heap H locs → lv_has ls 6 [] → W p l e { frames := 2, cells := 0, slots := 0, locals := 49 } s m args below meth c H locs 0 0 (MQ below (Qi g R v I) args s 0 0 (· ∈ g.L)) (F0 m 95 ls []) := by
  have ⟨hx, hb, hml, hr, hlk, hown, hall, hT, hK⟩ := cx
  intro H locs ls h hP hS hl
  unfold B_Model_logHolds_95 at h
  refine lv_iconst (v := 1) hx hb d_Model_logHolds_95 (by decide) ?_
  refine lv_goto hx hb d_Model_logHolds_96 rfl ?_
  obtain rfl := Option.some.inj h
  exact gg_zret hx hb hr hlk rfl hK hP hS d_Model_logHolds_100
def B_Model_logHolds_62 (R : Nat → Nat → Nat) (I : St) (a0 : Nat) (x2 : Int32) (x3 : Int32) (x4 : Int32) (t0 : Int32) : Option Int32 := (chk x2 16 ((chk x2 16 ((if ((((I (R a0 18) x2.toNatClampNeg) ||| (I (R a0 19) x2.toNatClampNeg)) >>> (x3 &&& 31)) &&& (1 : Int32)) = (1 : Int32) then (if x4 = 0 then (if t0 = 0 then B_Model_logHolds_99 R I else B_Model_logHolds_95 R I) else B_Model_logHolds_95 R I) else B_Model_logHolds_99 R I)))))
set_option maxHeartbeats 4000000 in
set_option maxRecDepth 100000 in
theorem b_Model_logHolds_62 {p : Program} {l : Launch} {e : Env} {s : State} {m : MethodId} {args : Array Value} {below : List Frame} {meth : Method} {c : Code} {g : Sg} {R : Nat → Nat → Nat} {I : St} {v : Int32} (cx : Cx p s m args meth c g R R_Model b_Model_logHolds 6 (some .boolean)) : ∀ (a0 : Nat) (x2 : Int32) (x3 : Int32) (x4 : Int32) (t0 : Int32) (H : Heap) (locs : List Loc) (ls : Array Slot), okA g 5 0 a0 → B_Model_logHolds_62 R I a0 x2 x3 x4 t0 = some v → wW g R I H → va_S (· ∈ g.L) s.heap H locs → lv_has ls 6 [(0, .ref a0), (2, .int x2), (3, .int x3), (4, .int x4)] → W p l e { frames := 2, cells := 0, slots := 0, locals := 49 } s m args below meth c H locs 0 0 (MQ below (Qi g R v I) args s 0 0 (· ∈ g.L)) (F0 m 62 ls [.int t0]) := by
  have ⟨hx, hb, hml, hr, hlk, hown, hall, hT, hK⟩ := cx
  intro a0 x2 x3 x4 t0 H locs ls o0 h hP hS hl
  unfold B_Model_logHolds_62 at h
  refine lv_istore (lv' := [(5, .int t0), (0, .ref a0), (2, .int x2), (3, .int x3), (4, .int x4)]) hx hb d_Model_logHolds_62 hl (Nat.le_of_ble_eq_true rfl) rfl (fun ls hl => ?_)
  refine lv_aload_n hx hb d_Model_logHolds_64 rfl (lv_at hl 1 rfl) ?_
  refine gg_get (C := R_Model) (T := F_Model) (N := 23) (ci := 5) hx hb hall i_Model hown hK hP o0.1 (wE_5 o0.2) rfl 18 (by decide) (hall _ m_422) (fun _ h9 => h9) rfl d_Model_logHolds_65 ?_
  have o_65 : okA g 6 16 (R a0 18) := ty_Model_18 hT o0
  refine lv_iload_n hx hb d_Model_logHolds_68 rfl (lv_at hl 2 rfl) ?_
  obtain ⟨hi69, h⟩ := chk_el h
  refine gg_iald hx hb hK hP o_65 hi69 d_Model_logHolds_69 ?_
  refine lv_aload_n hx hb d_Model_logHolds_70 rfl (lv_at hl 1 rfl) ?_
  refine gg_get (C := R_Model) (T := F_Model) (N := 23) (ci := 5) hx hb hall i_Model hown hK hP o0.1 (wE_5 o0.2) rfl 19 (by decide) (hall _ m_423) (fun _ h9 => h9) rfl d_Model_logHolds_71 ?_
  have o_71 : okA g 6 16 (R a0 19) := ty_Model_19 hT o0
  refine lv_iload_n hx hb d_Model_logHolds_74 rfl (lv_at hl 2 rfl) ?_
  obtain ⟨hi75, h⟩ := chk_el h
  refine gg_iald hx hb hK hP o_71 hi75 d_Model_logHolds_75 ?_
  refine lv_ior hx hb d_Model_logHolds_76 ?_
  refine lv_iload_n hx hb d_Model_logHolds_77 rfl (lv_at hl 3 rfl) ?_
  refine lv_ishr hx hb d_Model_logHolds_78 ?_
  refine lv_iconst (v := 1) hx hb d_Model_logHolds_79 (by decide) ?_
  refine lv_iand hx hb d_Model_logHolds_80 ?_
  refine lv_iconst (v := 1) hx hb d_Model_logHolds_81 (by decide) ?_
  refine lv_icmp_ne hx hb d_Model_logHolds_82 rfl (fun hc => ?_) (fun hc => ?_)
  · replace h := i_neg hc h
    exact b_Model_logHolds_99 cx _ _ _ h hP hS (lv_sub hl [] rfl)
  · replace h := i_pos hc h
    refine lv_iload hx hb d_Model_logHolds_85 (lv_at hl 4 rfl) ?_
    refine lv_if_ne hx hb d_Model_logHolds_87 rfl (fun hc => ?_) (fun hc => ?_)
    · replace h := i_neg hc h
      exact b_Model_logHolds_95 cx _ _ _ h hP hS (lv_sub hl [] rfl)
    · replace h := i_pos hc h
      refine lv_iload hx hb d_Model_logHolds_90 (lv_at hl 0 rfl) ?_
      refine lv_if_eq hx hb d_Model_logHolds_92 rfl (fun hc => ?_) (fun hc => ?_)
      · replace h := i_pos hc h
        exact b_Model_logHolds_99 cx _ _ _ h hP hS (lv_sub hl [] rfl)
      · replace h := i_neg hc h
        exact b_Model_logHolds_95 cx _ _ _ h hP hS (lv_sub hl [] rfl)
def B_Model_logHolds_61 (R : Nat → Nat → Nat) (I : St) (a0 : Nat) (x2 : Int32) (x3 : Int32) (x4 : Int32) : Option Int32 := B_Model_logHolds_62 R I a0 x2 x3 x4 (0 : Int32)
set_option maxHeartbeats 4000000 in
set_option maxRecDepth 100000 in
theorem b_Model_logHolds_61 {p : Program} {l : Launch} {e : Env} {s : State} {m : MethodId} {args : Array Value} {below : List Frame} {meth : Method} {c : Code} {g : Sg} {R : Nat → Nat → Nat} {I : St} {v : Int32} (cx : Cx p s m args meth c g R R_Model b_Model_logHolds 6 (some .boolean)) : ∀ (a0 : Nat) (x2 : Int32) (x3 : Int32) (x4 : Int32) (H : Heap) (locs : List Loc) (ls : Array Slot), okA g 5 0 a0 → B_Model_logHolds_61 R I a0 x2 x3 x4 = some v → wW g R I H → va_S (· ∈ g.L) s.heap H locs → lv_has ls 6 [(0, .ref a0), (2, .int x2), (3, .int x3), (4, .int x4)] → W p l e { frames := 2, cells := 0, slots := 0, locals := 49 } s m args below meth c H locs 0 0 (MQ below (Qi g R v I) args s 0 0 (· ∈ g.L)) (F0 m 61 ls []) := by
  have ⟨hx, hb, hml, hr, hlk, hown, hall, hT, hK⟩ := cx
  intro a0 x2 x3 x4 H locs ls o0 h hP hS hl
  unfold B_Model_logHolds_61 at h
  refine lv_iconst (v := 0) hx hb d_Model_logHolds_61 (by decide) ?_
  exact b_Model_logHolds_62 cx _ _ _ _ _ _ _ _ o0 h hP hS (lv_sub hl [0, 1, 2, 3] rfl)
def B_Model_logHolds_35 (R : Nat → Nat → Nat) (I : St) (a0 : Nat) (x1 : Int32) (x2 : Int32) (x3 : Int32) (t0 : Int32) : Option Int32 := (ob (F_Model_has R a0 x1 x2 (2 : Int32) I) (fun v41 => (if v41 = 0 then B_Model_logHolds_61 R I a0 x2 x3 t0 else (ob (F_Model_knows R a0 x1 x2 (2 : Int32) I) (fun v51 => (if v51 = 0 then B_Model_logHolds_62 R I a0 x2 x3 t0 (1 : Int32) else B_Model_logHolds_61 R I a0 x2 x3 t0))))))
set_option maxHeartbeats 4000000 in
set_option maxRecDepth 100000 in
theorem b_Model_logHolds_35 {p : Program} {l : Launch} {e : Env} {s : State} {m : MethodId} {args : Array Value} {below : List Frame} {meth : Method} {c : Code} {g : Sg} {R : Nat → Nat → Nat} {I : St} {v : Int32} (cx : Cx p s m args meth c g R R_Model b_Model_logHolds 6 (some .boolean)) : ∀ (a0 : Nat) (x1 : Int32) (x2 : Int32) (x3 : Int32) (t0 : Int32) (H : Heap) (locs : List Loc) (ls : Array Slot), okA g 5 0 a0 → B_Model_logHolds_35 R I a0 x1 x2 x3 t0 = some v → wW g R I H → va_S (· ∈ g.L) s.heap H locs → lv_has ls 6 [(0, .ref a0), (1, .int x1), (2, .int x2), (3, .int x3)] → W p l e { frames := 2, cells := 0, slots := 0, locals := 49 } s m args below meth c H locs 0 0 (MQ below (Qi g R v I) args s 0 0 (· ∈ g.L)) (F0 m 35 ls [.int t0]) := by
  have ⟨hx, hb, hml, hr, hlk, hown, hall, hT, hK⟩ := cx
  intro a0 x1 x2 x3 t0 H locs ls o0 h hP hS hl
  unfold B_Model_logHolds_35 at h
  refine lv_istore (lv' := [(4, .int t0), (0, .ref a0), (1, .int x1), (2, .int x2), (3, .int x3)]) hx hb d_Model_logHolds_35 hl (Nat.le_of_ble_eq_true rfl) rfl (fun ls hl => ?_)
  refine lv_aload_n hx hb d_Model_logHolds_37 rfl (lv_at hl 1 rfl) ?_
  refine lv_iload_n hx hb d_Model_logHolds_38 rfl (lv_at hl 2 rfl) ?_
  refine lv_iload_n hx hb d_Model_logHolds_39 rfl (lv_at hl 3 rfl) ?_
  refine lv_iconst (v := 2) hx hb d_Model_logHolds_40 (by decide) ?_
  obtain ⟨v41, e41, h⟩ := ob_el h
  refine gg_Vi (As := [.int x1, .int x2, .int (2 : Int32)]) (rest := []) (ci := 5) (C := R_Model) (T := F_Model) (N := 23) ⟨hx, hb, hml, hown, hall⟩ (c_Model_has l hT o0 e41) (cwV 3 hall (gV m_433 m_434 m_435 m_338 m_376) rfl rfl rfl (by decide +kernel) ⟨Nat.le_of_ble_eq_true rfl, Nat.le_of_ble_eq_true rfl⟩) hK hP hS o0.1 (wE_5 o0.2) rfl rfl hl.1 rfl (Nat.le_of_ble_eq_true rfl) d_Model_logHolds_41 (fun H locs hP hS => ?_)
  refine lv_if_eq hx hb d_Model_logHolds_44 rfl (fun hc => ?_) (fun hc => ?_)
  · replace h := i_pos hc h
    exact b_Model_logHolds_61 cx _ _ _ _ _ _ _ o0 h hP hS (lv_sub hl [1, 3, 4, 0] rfl)
  · replace h := i_neg hc h
    refine lv_aload_n hx hb d_Model_logHolds_47 rfl (lv_at hl 1 rfl) ?_
    refine lv_iload_n hx hb d_Model_logHolds_48 rfl (lv_at hl 2 rfl) ?_
    refine lv_iload_n hx hb d_Model_logHolds_49 rfl (lv_at hl 3 rfl) ?_
    refine lv_iconst (v := 2) hx hb d_Model_logHolds_50 (by decide) ?_
    obtain ⟨v51, e51, h⟩ := ob_el h
    refine gg_Vi (As := [.int x1, .int x2, .int (2 : Int32)]) (rest := []) (ci := 5) (C := R_Model) (T := F_Model) (N := 23) ⟨hx, hb, hml, hown, hall⟩ (c_Model_knows l hT o0 e51) (cwV 3 hall (gV m_436 m_437 m_438 m_338 m_377) rfl rfl rfl (by decide +kernel) ⟨Nat.le_of_ble_eq_true rfl, Nat.le_of_ble_eq_true rfl⟩) hK hP hS o0.1 (wE_5 o0.2) rfl rfl hl.1 rfl (Nat.le_of_ble_eq_true rfl) d_Model_logHolds_51 (fun H locs hP hS => ?_)
    refine lv_if_ne hx hb d_Model_logHolds_54 rfl (fun hc => ?_) (fun hc => ?_)
    · replace h := i_neg hc h
      exact b_Model_logHolds_61 cx _ _ _ _ _ _ _ o0 h hP hS (lv_sub hl [1, 3, 4, 0] rfl)
    · replace h := i_pos hc h
      refine lv_iconst (v := 1) hx hb d_Model_logHolds_57 (by decide) ?_
      refine lv_goto hx hb d_Model_logHolds_58 rfl ?_
      exact b_Model_logHolds_62 cx _ _ _ _ _ _ _ _ o0 h hP hS (lv_sub hl [1, 3, 4, 0] rfl)
def B_Model_logHolds_34 (R : Nat → Nat → Nat) (I : St) (a0 : Nat) (x1 : Int32) (x2 : Int32) (x3 : Int32) : Option Int32 := B_Model_logHolds_35 R I a0 x1 x2 x3 (0 : Int32)
set_option maxHeartbeats 4000000 in
set_option maxRecDepth 100000 in
theorem b_Model_logHolds_34 {p : Program} {l : Launch} {e : Env} {s : State} {m : MethodId} {args : Array Value} {below : List Frame} {meth : Method} {c : Code} {g : Sg} {R : Nat → Nat → Nat} {I : St} {v : Int32} (cx : Cx p s m args meth c g R R_Model b_Model_logHolds 6 (some .boolean)) : ∀ (a0 : Nat) (x1 : Int32) (x2 : Int32) (x3 : Int32) (H : Heap) (locs : List Loc) (ls : Array Slot), okA g 5 0 a0 → B_Model_logHolds_34 R I a0 x1 x2 x3 = some v → wW g R I H → va_S (· ∈ g.L) s.heap H locs → lv_has ls 6 [(0, .ref a0), (1, .int x1), (2, .int x2), (3, .int x3)] → W p l e { frames := 2, cells := 0, slots := 0, locals := 49 } s m args below meth c H locs 0 0 (MQ below (Qi g R v I) args s 0 0 (· ∈ g.L)) (F0 m 34 ls []) := by
  have ⟨hx, hb, hml, hr, hlk, hown, hall, hT, hK⟩ := cx
  intro a0 x1 x2 x3 H locs ls o0 h hP hS hl
  unfold B_Model_logHolds_34 at h
  refine lv_iconst (v := 0) hx hb d_Model_logHolds_34 (by decide) ?_
  exact b_Model_logHolds_35 cx _ _ _ _ _ _ _ _ o0 h hP hS (lv_sub hl [0, 1, 2, 3] rfl)
def F_Model_logHolds (R : Nat → Nat → Nat) (a0 : Nat) (x1 : Int32) (x2 : Int32) (x3 : Int32) (I : St) : Option Int32 := (ob (F_Model_has R a0 x1 x2 (1 : Int32) I) (fun v4 => (if v4 = 0 then B_Model_logHolds_34 R I a0 x1 x2 x3 else (ob (F_Model_knows R a0 x1 x2 (2 : Int32) I) (fun v14 => (if v14 = 0 then (ob (F_Model_knows R a0 x1 x2 (3 : Int32) I) (fun v24 => (if v24 = 0 then B_Model_logHolds_35 R I a0 x1 x2 x3 (1 : Int32) else B_Model_logHolds_34 R I a0 x1 x2 x3))) else B_Model_logHolds_34 R I a0 x1 x2 x3))))))
set_option maxHeartbeats 4000000 in
set_option maxRecDepth 100000 in
theorem c_Model_logHolds (l : Launch) {g : Sg} {R : Nat → Nat → Nat} (hT : Ty g R) {a0 : Nat} (o0 : okA g 5 0 a0) {x1 : Int32} {x2 : Int32} {x3 : Int32} {I : St} {v : Int32} (h : F_Model_logHolds R a0 x1 x2 x3 I = some v) : Cti l g R y_Model_logHolds w_Model_logHolds 2 49 [.ref a0, .int x1, .int x2, .int x3] I v I := by
  unfold Cti
  refine Met.ofW (cc := b_Model_logHolds) (maxL := 6) (ret := (some .boolean)) (by decide) rfl ?_
  intro p e s m args below meth c s₁ B hml hv
  obtain ⟨rfl, hP, hK⟩ := hv
  have hts := atoms_spec (ws := w_Model_logHolds) B.pre
  have hall : ∀ w ∈ w_all, w.before _ s = true := fun w hw => hts w (List.mem_cons_of_mem _ hw)
  have hown : s.vm.findClass R_Model = some m.cls := findClass_of_methodNamed B.named
  have hx := B.exec
  have hb := B.bytes
  have hr := B.returns
  have hlk := B.notSynchronized
  have cx : Cx p s m _ meth c g R R_Model b_Model_logHolds 6 (some .boolean) := ⟨hx, hb, hml, hr, hlk, hown, hall, hT, hK⟩
  have hl := lv_entry ([.ref a0, .int x1, .int x2, .int x3]) (n := 6) (Nat.le_of_ble_eq_true rfl)
  rw [lg_entry_eq]
  generalize (lg_sl ([.ref a0, .int x1, .int x2, .int x3]) ++ List.replicate (6 - (lg_sl ([.ref a0, .int x1, .int x2, .int x3])).length) Slot.unset).toArray = ls at hl ⊢
  have hl : lv_has ls 6 [(0, .ref a0), (1, .int x1), (2, .int x2), (3, .int x3)] := hl
  have hS : va_S (· ∈ g.L) s.heap s.heap [] := va_S.rf
  unfold F_Model_logHolds at h
  refine lv_aload_n hx hb d_Model_logHolds_0 rfl (lv_at hl 0 rfl) ?_
  refine lv_iload_n hx hb d_Model_logHolds_1 rfl (lv_at hl 1 rfl) ?_
  refine lv_iload_n hx hb d_Model_logHolds_2 rfl (lv_at hl 2 rfl) ?_
  refine lv_iconst (v := 1) hx hb d_Model_logHolds_3 (by decide) ?_
  obtain ⟨v4, e4, h⟩ := ob_el h
  refine gg_Vi (As := [.int x1, .int x2, .int (1 : Int32)]) (rest := []) (ci := 5) (C := R_Model) (T := F_Model) (N := 23) ⟨hx, hb, hml, hown, hall⟩ (c_Model_has l hT o0 e4) (cwV 3 hall (gV m_433 m_434 m_435 m_338 m_376) rfl rfl rfl (by decide +kernel) ⟨Nat.le_of_ble_eq_true rfl, Nat.le_of_ble_eq_true rfl⟩) hK hP hS o0.1 (wE_5 o0.2) rfl rfl hl.1 rfl (Nat.le_of_ble_eq_true rfl) d_Model_logHolds_4 (fun H locs hP hS => ?_)
  refine lv_if_eq hx hb d_Model_logHolds_7 rfl (fun hc => ?_) (fun hc => ?_)
  · replace h := i_pos hc h
    exact b_Model_logHolds_34 cx _ _ _ _ _ _ _ o0 h hP hS (lv_sub hl [0, 1, 2, 3] rfl)
  · replace h := i_neg hc h
    refine lv_aload_n hx hb d_Model_logHolds_10 rfl (lv_at hl 0 rfl) ?_
    refine lv_iload_n hx hb d_Model_logHolds_11 rfl (lv_at hl 1 rfl) ?_
    refine lv_iload_n hx hb d_Model_logHolds_12 rfl (lv_at hl 2 rfl) ?_
    refine lv_iconst (v := 2) hx hb d_Model_logHolds_13 (by decide) ?_
    obtain ⟨v14, e14, h⟩ := ob_el h
    refine gg_Vi (As := [.int x1, .int x2, .int (2 : Int32)]) (rest := []) (ci := 5) (C := R_Model) (T := F_Model) (N := 23) ⟨hx, hb, hml, hown, hall⟩ (c_Model_knows l hT o0 e14) (cwV 3 hall (gV m_436 m_437 m_438 m_338 m_377) rfl rfl rfl (by decide +kernel) ⟨Nat.le_of_ble_eq_true rfl, Nat.le_of_ble_eq_true rfl⟩) hK hP hS o0.1 (wE_5 o0.2) rfl rfl hl.1 rfl (Nat.le_of_ble_eq_true rfl) d_Model_logHolds_14 (fun H locs hP hS => ?_)
    refine lv_if_ne hx hb d_Model_logHolds_17 rfl (fun hc => ?_) (fun hc => ?_)
    · replace h := i_neg hc h
      exact b_Model_logHolds_34 cx _ _ _ _ _ _ _ o0 h hP hS (lv_sub hl [0, 1, 2, 3] rfl)
    · replace h := i_pos hc h
      refine lv_aload_n hx hb d_Model_logHolds_20 rfl (lv_at hl 0 rfl) ?_
      refine lv_iload_n hx hb d_Model_logHolds_21 rfl (lv_at hl 1 rfl) ?_
      refine lv_iload_n hx hb d_Model_logHolds_22 rfl (lv_at hl 2 rfl) ?_
      refine lv_iconst (v := 3) hx hb d_Model_logHolds_23 (by decide) ?_
      obtain ⟨v24, e24, h⟩ := ob_el h
      refine gg_Vi (As := [.int x1, .int x2, .int (3 : Int32)]) (rest := []) (ci := 5) (C := R_Model) (T := F_Model) (N := 23) ⟨hx, hb, hml, hown, hall⟩ (c_Model_knows l hT o0 e24) (cwV 3 hall (gV m_436 m_437 m_438 m_338 m_377) rfl rfl rfl (by decide +kernel) ⟨Nat.le_of_ble_eq_true rfl, Nat.le_of_ble_eq_true rfl⟩) hK hP hS o0.1 (wE_5 o0.2) rfl rfl hl.1 rfl (Nat.le_of_ble_eq_true rfl) d_Model_logHolds_24 (fun H locs hP hS => ?_)
      refine lv_if_ne hx hb d_Model_logHolds_27 rfl (fun hc => ?_) (fun hc => ?_)
      · replace h := i_neg hc h
        exact b_Model_logHolds_34 cx _ _ _ _ _ _ _ o0 h hP hS (lv_sub hl [0, 1, 2, 3] rfl)
      · replace h := i_pos hc h
        refine lv_iconst (v := 1) hx hb d_Model_logHolds_30 (by decide) ?_
        refine lv_goto hx hb d_Model_logHolds_31 rfl ?_
        exact b_Model_logHolds_35 cx _ _ _ _ _ _ _ _ o0 h hP hS (lv_sub hl [0, 1, 2, 3] rfl)
abbrev b_Model_isVersion : ByteArray := prog_7_method_34_code
def y_Model_isVersion : MethodName := ⟨"StampedStoreModel", "isVersion", "(III)Z"⟩
def w_Model_isVersion : List Cond := .code y_Model_isVersion b_Model_isVersion 6 (some .boolean) :: w_all
theorem d_Model_isVersion_0 : decode b_Model_isVersion 0 = .ok (.bipush 60, 2) := by decide +kernel
theorem d_Model_isVersion_2 : decode b_Model_isVersion 2 = .ok (.iload_n 1, 1) := by decide +kernel
theorem d_Model_isVersion_3 : decode b_Model_isVersion 3 = .ok (.imul, 1) := by decide +kernel
theorem d_Model_isVersion_4 : decode b_Model_isVersion 4 = .ok (.iload_n 2, 1) := by decide +kernel
theorem d_Model_isVersion_5 : decode b_Model_isVersion 5 = .ok (.iadd, 1) := by decide +kernel
theorem d_Model_isVersion_6 : decode b_Model_isVersion 6 = .ok (.istore 4, 2) := by decide +kernel
theorem d_Model_isVersion_8 : decode b_Model_isVersion 8 = .ok (.aload_n 0, 1) := by decide +kernel
theorem d_Model_isVersion_9 : decode b_Model_isVersion 9 = .ok (.getfield 44, 3) := by decide +kernel
theorem d_Model_isVersion_12 : decode b_Model_isVersion 12 = .ok (.iload 4, 2) := by decide +kernel
theorem d_Model_isVersion_14 : decode b_Model_isVersion 14 = .ok (.iaload, 1) := by decide +kernel
theorem d_Model_isVersion_15 : decode b_Model_isVersion 15 = .ok (.iconst 2, 1) := by decide +kernel
theorem d_Model_isVersion_16 : decode b_Model_isVersion 16 = .ok (.if_icmp .eq 25, 3) := by decide +kernel
theorem d_Model_isVersion_19 : decode b_Model_isVersion 19 = .ok (.aload_n 0, 1) := by decide +kernel
theorem d_Model_isVersion_20 : decode b_Model_isVersion 20 = .ok (.getfield 44, 3) := by decide +kernel
theorem d_Model_isVersion_23 : decode b_Model_isVersion 23 = .ok (.iload 4, 2) := by decide +kernel
theorem d_Model_isVersion_25 : decode b_Model_isVersion 25 = .ok (.iaload, 1) := by decide +kernel
theorem d_Model_isVersion_26 : decode b_Model_isVersion 26 = .ok (.iconst 3, 1) := by decide +kernel
theorem d_Model_isVersion_27 : decode b_Model_isVersion 27 = .ok (.if_icmp .ne 18, 3) := by decide +kernel
theorem d_Model_isVersion_30 : decode b_Model_isVersion 30 = .ok (.aload_n 0, 1) := by decide +kernel
theorem d_Model_isVersion_31 : decode b_Model_isVersion 31 = .ok (.getfield 50, 3) := by decide +kernel
theorem d_Model_isVersion_34 : decode b_Model_isVersion 34 = .ok (.iload 4, 2) := by decide +kernel
theorem d_Model_isVersion_36 : decode b_Model_isVersion 36 = .ok (.iaload, 1) := by decide +kernel
theorem d_Model_isVersion_37 : decode b_Model_isVersion 37 = .ok (.iconst (-1), 1) := by decide +kernel
theorem d_Model_isVersion_38 : decode b_Model_isVersion 38 = .ok (.if_icmp .eq 7, 3) := by decide +kernel
theorem d_Model_isVersion_41 : decode b_Model_isVersion 41 = .ok (.iconst 1, 1) := by decide +kernel
theorem d_Model_isVersion_42 : decode b_Model_isVersion 42 = .ok (.goto 4, 3) := by decide +kernel
theorem d_Model_isVersion_45 : decode b_Model_isVersion 45 = .ok (.iconst 0, 1) := by decide +kernel
theorem d_Model_isVersion_46 : decode b_Model_isVersion 46 = .ok (.istore 5, 2) := by decide +kernel
theorem d_Model_isVersion_48 : decode b_Model_isVersion 48 = .ok (.iload 5, 2) := by decide +kernel
theorem d_Model_isVersion_50 : decode b_Model_isVersion 50 = .ok (.ifCond .eq 27, 3) := by decide +kernel
theorem d_Model_isVersion_53 : decode b_Model_isVersion 53 = .ok (.aload_n 0, 1) := by decide +kernel
theorem d_Model_isVersion_54 : decode b_Model_isVersion 54 = .ok (.getfield 59, 3) := by decide +kernel
theorem d_Model_isVersion_57 : decode b_Model_isVersion 57 = .ok (.aload_n 0, 1) := by decide +kernel
theorem d_Model_isVersion_58 : decode b_Model_isVersion 58 = .ok (.getfield 47, 3) := by decide +kernel
theorem d_Model_isVersion_61 : decode b_Model_isVersion 61 = .ok (.iload 4, 2) := by decide +kernel
theorem d_Model_isVersion_63 : decode b_Model_isVersion 63 = .ok (.iaload, 1) := by decide +kernel
theorem d_Model_isVersion_64 : decode b_Model_isVersion 64 = .ok (.iaload, 1) := by decide +kernel
theorem d_Model_isVersion_65 : decode b_Model_isVersion 65 = .ok (.iload_n 3, 1) := by decide +kernel
theorem d_Model_isVersion_66 : decode b_Model_isVersion 66 = .ok (.ishr, 1) := by decide +kernel
theorem d_Model_isVersion_67 : decode b_Model_isVersion 67 = .ok (.iconst 1, 1) := by decide +kernel
theorem d_Model_isVersion_68 : decode b_Model_isVersion 68 = .ok (.iand, 1) := by decide +kernel
theorem d_Model_isVersion_69 : decode b_Model_isVersion 69 = .ok (.iconst 1, 1) := by decide +kernel
theorem d_Model_isVersion_70 : decode b_Model_isVersion 70 = .ok (.if_icmp .ne 7, 3) := by decide +kernel
theorem d_Model_isVersion_73 : decode b_Model_isVersion 73 = .ok (.iconst 1, 1) := by decide +kernel
theorem d_Model_isVersion_74 : decode b_Model_isVersion 74 = .ok (.goto 4, 3) := by decide +kernel
theorem d_Model_isVersion_77 : decode b_Model_isVersion 77 = .ok (.iconst 0, 1) := by decide +kernel
theorem d_Model_isVersion_78 : decode b_Model_isVersion 78 = .ok (.ireturn, 1) := by decide +kernel
def B_Model_isVersion_77 (R : Nat → Nat → Nat) (I : St) : Option Int32 := some (0 : Int32)
set_option maxHeartbeats 4000000 in
set_option maxRecDepth 100000 in
theorem b_Model_isVersion_77 {p : Program} {l : Launch} {e : Env} {s : State} {m : MethodId} {args : Array Value} {below : List Frame} {meth : Method} {c : Code} {g : Sg} {R : Nat → Nat → Nat} {I : St} {v : Int32} (cx : Cx p s m args meth c g R R_Model b_Model_isVersion 6 (some .boolean)) : ∀ (H : Heap) (locs : List Loc) (ls : Array Slot), B_Model_isVersion_77 R I = some v → wW g R I H → va_S (· ∈ g.L) s.heap H locs → lv_has ls 6 [] → W p l e { frames := 0, cells := 0, slots := 0, locals := 0 } s m args below meth c H locs 0 0 (MQ below (Qi g R v I) args s 0 0 (· ∈ g.L)) (F0 m 77 ls []) := by
  have ⟨hx, hb, hml, hr, hlk, hown, hall, hT, hK⟩ := cx
  intro H locs ls h hP hS hl
  unfold B_Model_isVersion_77 at h
  refine lv_iconst (v := 0) hx hb d_Model_isVersion_77 (by decide) ?_
  obtain rfl := Option.some.inj h
  exact gg_zret hx hb hr hlk rfl hK hP hS d_Model_isVersion_78
def B_Model_isVersion_46 (R : Nat → Nat → Nat) (I : St) (a0 : Nat) (x3 : Int32) (x4 : Int32) (t0 : Int32) : Option Int32 := (if t0 = 0 then B_Model_isVersion_77 R I else (chk x4 360 ((chk (I (R a0 14) x4.toNatClampNeg) 16 ((if (((I (R a0 19) (I (R a0 14) x4.toNatClampNeg).toNatClampNeg) >>> (x3 &&& 31)) &&& (1 : Int32)) = (1 : Int32) then some (1 : Int32) else B_Model_isVersion_77 R I))))))
set_option maxHeartbeats 4000000 in
set_option maxRecDepth 100000 in
theorem b_Model_isVersion_46 {p : Program} {l : Launch} {e : Env} {s : State} {m : MethodId} {args : Array Value} {below : List Frame} {meth : Method} {c : Code} {g : Sg} {R : Nat → Nat → Nat} {I : St} {v : Int32} (cx : Cx p s m args meth c g R R_Model b_Model_isVersion 6 (some .boolean)) : ∀ (a0 : Nat) (x3 : Int32) (x4 : Int32) (t0 : Int32) (H : Heap) (locs : List Loc) (ls : Array Slot), okA g 5 0 a0 → B_Model_isVersion_46 R I a0 x3 x4 t0 = some v → wW g R I H → va_S (· ∈ g.L) s.heap H locs → lv_has ls 6 [(0, .ref a0), (3, .int x3), (4, .int x4)] → W p l e { frames := 0, cells := 0, slots := 0, locals := 0 } s m args below meth c H locs 0 0 (MQ below (Qi g R v I) args s 0 0 (· ∈ g.L)) (F0 m 46 ls [.int t0]) := by
  have ⟨hx, hb, hml, hr, hlk, hown, hall, hT, hK⟩ := cx
  intro a0 x3 x4 t0 H locs ls o0 h hP hS hl
  unfold B_Model_isVersion_46 at h
  refine lv_istore (lv' := [(5, .int t0), (0, .ref a0), (3, .int x3), (4, .int x4)]) hx hb d_Model_isVersion_46 hl (Nat.le_of_ble_eq_true rfl) rfl (fun ls hl => ?_)
  refine lv_iload hx hb d_Model_isVersion_48 (lv_at hl 0 rfl) ?_
  refine lv_if_eq hx hb d_Model_isVersion_50 rfl (fun hc => ?_) (fun hc => ?_)
  · replace h := i_pos hc h
    exact b_Model_isVersion_77 cx _ _ _ h hP hS (lv_sub hl [] rfl)
  · replace h := i_neg hc h
    refine lv_aload_n hx hb d_Model_isVersion_53 rfl (lv_at hl 1 rfl) ?_
    refine gg_get (C := R_Model) (T := F_Model) (N := 23) (ci := 5) hx hb hall i_Model hown hK hP o0.1 (wE_5 o0.2) rfl 19 (by decide) (hall _ m_423) (fun _ h9 => h9) rfl d_Model_isVersion_54 ?_
    have o_54 : okA g 6 16 (R a0 19) := ty_Model_19 hT o0
    refine lv_aload_n hx hb d_Model_isVersion_57 rfl (lv_at hl 1 rfl) ?_
    refine gg_get (C := R_Model) (T := F_Model) (N := 23) (ci := 5) hx hb hall i_Model hown hK hP o0.1 (wE_5 o0.2) rfl 14 (by decide) (hall _ m_370) (fun _ h9 => h9) rfl d_Model_isVersion_58 ?_
    have o_58 : okA g 6 360 (R a0 14) := ty_Model_14 hT o0
    refine lv_iload hx hb d_Model_isVersion_61 (lv_at hl 3 rfl) ?_
    obtain ⟨hi63, h⟩ := chk_el h
    refine gg_iald hx hb hK hP o_58 hi63 d_Model_isVersion_63 ?_
    obtain ⟨hi64, h⟩ := chk_el h
    refine gg_iald hx hb hK hP o_54 hi64 d_Model_isVersion_64 ?_
    refine lv_iload_n hx hb d_Model_isVersion_65 rfl (lv_at hl 2 rfl) ?_
    refine lv_ishr hx hb d_Model_isVersion_66 ?_
    refine lv_iconst (v := 1) hx hb d_Model_isVersion_67 (by decide) ?_
    refine lv_iand hx hb d_Model_isVersion_68 ?_
    refine lv_iconst (v := 1) hx hb d_Model_isVersion_69 (by decide) ?_
    refine lv_icmp_ne hx hb d_Model_isVersion_70 rfl (fun hc => ?_) (fun hc => ?_)
    · replace h := i_neg hc h
      exact b_Model_isVersion_77 cx _ _ _ h hP hS (lv_sub hl [] rfl)
    · replace h := i_pos hc h
      refine lv_iconst (v := 1) hx hb d_Model_isVersion_73 (by decide) ?_
      refine lv_goto hx hb d_Model_isVersion_74 rfl ?_
      obtain rfl := Option.some.inj h
      exact gg_zret hx hb hr hlk rfl hK hP hS d_Model_isVersion_78
def B_Model_isVersion_41 (R : Nat → Nat → Nat) (I : St) (a0 : Nat) (x3 : Int32) (x4 : Int32) : Option Int32 := B_Model_isVersion_46 R I a0 x3 x4 (1 : Int32)
set_option maxHeartbeats 4000000 in
set_option maxRecDepth 100000 in
theorem b_Model_isVersion_41 {p : Program} {l : Launch} {e : Env} {s : State} {m : MethodId} {args : Array Value} {below : List Frame} {meth : Method} {c : Code} {g : Sg} {R : Nat → Nat → Nat} {I : St} {v : Int32} (cx : Cx p s m args meth c g R R_Model b_Model_isVersion 6 (some .boolean)) : ∀ (a0 : Nat) (x3 : Int32) (x4 : Int32) (H : Heap) (locs : List Loc) (ls : Array Slot), okA g 5 0 a0 → B_Model_isVersion_41 R I a0 x3 x4 = some v → wW g R I H → va_S (· ∈ g.L) s.heap H locs → lv_has ls 6 [(0, .ref a0), (3, .int x3), (4, .int x4)] → W p l e { frames := 0, cells := 0, slots := 0, locals := 0 } s m args below meth c H locs 0 0 (MQ below (Qi g R v I) args s 0 0 (· ∈ g.L)) (F0 m 41 ls []) := by
  have ⟨hx, hb, hml, hr, hlk, hown, hall, hT, hK⟩ := cx
  intro a0 x3 x4 H locs ls o0 h hP hS hl
  unfold B_Model_isVersion_41 at h
  refine lv_iconst (v := 1) hx hb d_Model_isVersion_41 (by decide) ?_
  refine lv_goto hx hb d_Model_isVersion_42 rfl ?_
  exact b_Model_isVersion_46 cx _ _ _ _ _ _ _ o0 h hP hS (lv_sub hl [0, 1, 2] rfl)
def B_Model_isVersion_45 (R : Nat → Nat → Nat) (I : St) (a0 : Nat) (x3 : Int32) (x4 : Int32) : Option Int32 := B_Model_isVersion_46 R I a0 x3 x4 (0 : Int32)
set_option maxHeartbeats 4000000 in
set_option maxRecDepth 100000 in
theorem b_Model_isVersion_45 {p : Program} {l : Launch} {e : Env} {s : State} {m : MethodId} {args : Array Value} {below : List Frame} {meth : Method} {c : Code} {g : Sg} {R : Nat → Nat → Nat} {I : St} {v : Int32} (cx : Cx p s m args meth c g R R_Model b_Model_isVersion 6 (some .boolean)) : ∀ (a0 : Nat) (x3 : Int32) (x4 : Int32) (H : Heap) (locs : List Loc) (ls : Array Slot), okA g 5 0 a0 → B_Model_isVersion_45 R I a0 x3 x4 = some v → wW g R I H → va_S (· ∈ g.L) s.heap H locs → lv_has ls 6 [(0, .ref a0), (3, .int x3), (4, .int x4)] → W p l e { frames := 0, cells := 0, slots := 0, locals := 0 } s m args below meth c H locs 0 0 (MQ below (Qi g R v I) args s 0 0 (· ∈ g.L)) (F0 m 45 ls []) := by
  have ⟨hx, hb, hml, hr, hlk, hown, hall, hT, hK⟩ := cx
  intro a0 x3 x4 H locs ls o0 h hP hS hl
  unfold B_Model_isVersion_45 at h
  refine lv_iconst (v := 0) hx hb d_Model_isVersion_45 (by decide) ?_
  exact b_Model_isVersion_46 cx _ _ _ _ _ _ _ o0 h hP hS (lv_sub hl [0, 1, 2] rfl)
def F_Model_isVersion (R : Nat → Nat → Nat) (a0 : Nat) (x1 : Int32) (x2 : Int32) (x3 : Int32) (I : St) : Option Int32 := (chk (((60 : Int32) * x1) + x2) 360 ((if (I (R a0 13) (((60 : Int32) * x1) + x2).toNatClampNeg) = (2 : Int32) then B_Model_isVersion_41 R I a0 x3 (((60 : Int32) * x1) + x2) else (chk (((60 : Int32) * x1) + x2) 360 ((if (I (R a0 13) (((60 : Int32) * x1) + x2).toNatClampNeg) = (3 : Int32) then (chk (((60 : Int32) * x1) + x2) 360 ((if (I (R a0 15) (((60 : Int32) * x1) + x2).toNatClampNeg) = (-1 : Int32) then B_Model_isVersion_45 R I a0 x3 (((60 : Int32) * x1) + x2) else B_Model_isVersion_41 R I a0 x3 (((60 : Int32) * x1) + x2)))) else B_Model_isVersion_45 R I a0 x3 (((60 : Int32) * x1) + x2)))))))
set_option maxHeartbeats 4000000 in
set_option maxRecDepth 100000 in
theorem c_Model_isVersion (l : Launch) {g : Sg} {R : Nat → Nat → Nat} (hT : Ty g R) {a0 : Nat} (o0 : okA g 5 0 a0) {x1 : Int32} {x2 : Int32} {x3 : Int32} {I : St} {v : Int32} (h : F_Model_isVersion R a0 x1 x2 x3 I = some v) : Cti l g R y_Model_isVersion w_Model_isVersion 0 0 [.ref a0, .int x1, .int x2, .int x3] I v I := by
  unfold Cti
  refine Met.ofW (cc := b_Model_isVersion) (maxL := 6) (ret := (some .boolean)) (by decide) rfl ?_
  intro p e s m args below meth c s₁ B hml hv
  obtain ⟨rfl, hP, hK⟩ := hv
  have hts := atoms_spec (ws := w_Model_isVersion) B.pre
  have hall : ∀ w ∈ w_all, w.before _ s = true := fun w hw => hts w (List.mem_cons_of_mem _ hw)
  have hown : s.vm.findClass R_Model = some m.cls := findClass_of_methodNamed B.named
  have hx := B.exec
  have hb := B.bytes
  have hr := B.returns
  have hlk := B.notSynchronized
  have cx : Cx p s m _ meth c g R R_Model b_Model_isVersion 6 (some .boolean) := ⟨hx, hb, hml, hr, hlk, hown, hall, hT, hK⟩
  have hl := lv_entry ([.ref a0, .int x1, .int x2, .int x3]) (n := 6) (Nat.le_of_ble_eq_true rfl)
  rw [lg_entry_eq]
  generalize (lg_sl ([.ref a0, .int x1, .int x2, .int x3]) ++ List.replicate (6 - (lg_sl ([.ref a0, .int x1, .int x2, .int x3])).length) Slot.unset).toArray = ls at hl ⊢
  have hl : lv_has ls 6 [(0, .ref a0), (1, .int x1), (2, .int x2), (3, .int x3)] := hl
  have hS : va_S (· ∈ g.L) s.heap s.heap [] := va_S.rf
  unfold F_Model_isVersion at h
  refine lv_bipush (v := 60) hx hb d_Model_isVersion_0 (by decide) ?_
  refine lv_iload_n hx hb d_Model_isVersion_2 rfl (lv_at hl 1 rfl) ?_
  refine lv_imul hx hb d_Model_isVersion_3 ?_
  refine lv_iload_n hx hb d_Model_isVersion_4 rfl (lv_at hl 2 rfl) ?_
  refine lv_iadd hx hb d_Model_isVersion_5 ?_
  refine lv_istore (lv' := [(4, .int (((60 : Int32) * x1) + x2)), (0, .ref a0), (1, .int x1), (2, .int x2), (3, .int x3)]) hx hb d_Model_isVersion_6 hl (Nat.le_of_ble_eq_true rfl) rfl (fun ls hl => ?_)
  refine lv_aload_n hx hb d_Model_isVersion_8 rfl (lv_at hl 1 rfl) ?_
  refine gg_get (C := R_Model) (T := F_Model) (N := 23) (ci := 5) hx hb hall i_Model hown hK hP o0.1 (wE_5 o0.2) rfl 13 (by decide) (hall _ m_364) (fun _ h9 => h9) rfl d_Model_isVersion_9 ?_
  have o_9 : okA g 6 360 (R a0 13) := ty_Model_13 hT o0
  refine lv_iload hx hb d_Model_isVersion_12 (lv_at hl 0 rfl) ?_
  obtain ⟨hi14, h⟩ := chk_el h
  refine gg_iald hx hb hK hP o_9 hi14 d_Model_isVersion_14 ?_
  refine lv_iconst (v := 2) hx hb d_Model_isVersion_15 (by decide) ?_
  refine lv_icmp_eq hx hb d_Model_isVersion_16 rfl (fun hc => ?_) (fun hc => ?_)
  · replace h := i_pos hc h
    exact b_Model_isVersion_41 cx _ _ _ _ _ _ o0 h hP hS (lv_sub hl [1, 4, 0] rfl)
  · replace h := i_neg hc h
    refine lv_aload_n hx hb d_Model_isVersion_19 rfl (lv_at hl 1 rfl) ?_
    refine gg_get (C := R_Model) (T := F_Model) (N := 23) (ci := 5) hx hb hall i_Model hown hK hP o0.1 (wE_5 o0.2) rfl 13 (by decide) (hall _ m_364) (fun _ h9 => h9) rfl d_Model_isVersion_20 ?_
    have o_20 : okA g 6 360 (R a0 13) := ty_Model_13 hT o0
    refine lv_iload hx hb d_Model_isVersion_23 (lv_at hl 0 rfl) ?_
    obtain ⟨hi25, h⟩ := chk_el h
    refine gg_iald hx hb hK hP o_20 hi25 d_Model_isVersion_25 ?_
    refine lv_iconst (v := 3) hx hb d_Model_isVersion_26 (by decide) ?_
    refine lv_icmp_ne hx hb d_Model_isVersion_27 rfl (fun hc => ?_) (fun hc => ?_)
    · replace h := i_neg hc h
      exact b_Model_isVersion_45 cx _ _ _ _ _ _ o0 h hP hS (lv_sub hl [1, 4, 0] rfl)
    · replace h := i_pos hc h
      refine lv_aload_n hx hb d_Model_isVersion_30 rfl (lv_at hl 1 rfl) ?_
      refine gg_get (C := R_Model) (T := F_Model) (N := 23) (ci := 5) hx hb hall i_Model hown hK hP o0.1 (wE_5 o0.2) rfl 15 (by decide) (hall _ m_365) (fun _ h9 => h9) rfl d_Model_isVersion_31 ?_
      have o_31 : okA g 6 360 (R a0 15) := ty_Model_15 hT o0
      refine lv_iload hx hb d_Model_isVersion_34 (lv_at hl 0 rfl) ?_
      obtain ⟨hi36, h⟩ := chk_el h
      refine gg_iald hx hb hK hP o_31 hi36 d_Model_isVersion_36 ?_
      refine lv_iconst (v := (-1)) hx hb d_Model_isVersion_37 (by decide) ?_
      refine lv_icmp_eq hx hb d_Model_isVersion_38 rfl (fun hc => ?_) (fun hc => ?_)
      · replace h := i_pos hc h
        exact b_Model_isVersion_45 cx _ _ _ _ _ _ o0 h hP hS (lv_sub hl [1, 4, 0] rfl)
      · replace h := i_neg hc h
        exact b_Model_isVersion_41 cx _ _ _ _ _ _ o0 h hP hS (lv_sub hl [1, 4, 0] rfl)
end
