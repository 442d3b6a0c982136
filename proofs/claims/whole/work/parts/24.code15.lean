section
abbrev b_Model_has : ByteArray := prog_7_method_17_code
def y_Model_has : MethodName := ⟨"StampedStoreModel", "has", "(III)Z"⟩
def w_Model_has : List Cond := .code y_Model_has b_Model_has 4 (some .boolean) :: w_all
theorem d_Model_has_0 : decode b_Model_has 0 = .ok (.aload_n 0, 1) := by decide +kernel
theorem d_Model_has_1 : decode b_Model_has 1 = .ok (.iload_n 1, 1) := by decide +kernel
theorem d_Model_has_2 : decode b_Model_has 2 = .ok (.iload_n 2, 1) := by decide +kernel
theorem d_Model_has_3 : decode b_Model_has 3 = .ok (.iload_n 3, 1) := by decide +kernel
theorem d_Model_has_4 : decode b_Model_has 4 = .ok (.aload_n 0, 1) := by decide +kernel
theorem d_Model_has_5 : decode b_Model_has 5 = .ok (.getfield 32, 3) := by decide +kernel
theorem d_Model_has_8 : decode b_Model_has 8 = .ok (.iload_n 1, 1) := by decide +kernel
theorem d_Model_has_9 : decode b_Model_has 9 = .ok (.iaload, 1) := by decide +kernel
theorem d_Model_has_10 : decode b_Model_has 10 = .ok (.invokevirtual 96, 3) := by decide +kernel
theorem d_Model_has_13 : decode b_Model_has 13 = .ok (.ifCond .lt 7, 3) := by decide +kernel
theorem d_Model_has_16 : decode b_Model_has 16 = .ok (.iconst 1, 1) := by decide +kernel
theorem d_Model_has_17 : decode b_Model_has 17 = .ok (.goto 4, 3) := by decide +kernel
theorem d_Model_has_20 : decode b_Model_has 20 = .ok (.iconst 0, 1) := by decide +kernel
theorem d_Model_has_21 : decode b_Model_has 21 = .ok (.ireturn, 1) := by decide +kernel
def F_Model_has (R : Nat → Nat → Nat) (a0 : Nat) (x1 : Int32) (x2 : Int32) (x3 : Int32) (I : St) : Option Int32 := (chk x1 6 ((ob (F_Model_find R a0 x1 x2 x3 (I (R a0 9) x1.toNatClampNeg) I) (fun v10 => (if v10 < 0 then some (0 : Int32) else some (1 : Int32))))))
set_option maxHeartbeats 4000000 in
set_option maxRecDepth 100000 in
theorem c_Model_has (l : Launch) {g : Sg} {R : Nat → Nat → Nat} (hT : Ty g R) {a0 : Nat} (o0 : okA g 5 0 a0) {x1 : Int32} {x2 : Int32} {x3 : Int32} {I : St} {v : Int32} (h : F_Model_has R a0 x1 x2 x3 I = some v) : Cti l g R y_Model_has w_Model_has 1 26 [.ref a0, .int x1, .int x2, .int x3] I v I := by
  unfold Cti
  refine Met.ofW (cc := b_Model_has) (maxL := 4) (ret := (some .boolean)) (by decide) rfl ?_
  intro p e s m args below meth c s₁ B hml hv
  obtain ⟨rfl, hP, hK⟩ := hv
  have hts := atoms_spec (ws := w_Model_has) B.pre
  have hall : ∀ w ∈ w_all, w.before _ s = true := fun w hw => hts w (List.mem_cons_of_mem _ hw)
  have hown : s.vm.findClass R_Model = some m.cls := findClass_of_methodNamed B.named
  have hx := B.exec
  have hb := B.bytes
  have hr := B.returns
  have hlk := B.notSynchronized
  have cx : Cx p s m _ meth c g R R_Model b_Model_has 4 (some .boolean) := ⟨hx, hb, hml, hr, hlk, hown, hall, hT, hK⟩
  have hl := lv_entry ([.ref a0, .int x1, .int x2, .int x3]) (n := 4) (Nat.le_of_ble_eq_true rfl)
  rw [lg_entry_eq]
  generalize (lg_sl ([.ref a0, .int x1, .int x2, .int x3]) ++ List.replicate (4 - (lg_sl ([.ref a0, .int x1, .int x2, .int x3])).length) Slot.unset).toArray = ls at hl ⊢
  have hl : lv_has ls 4 [(0, .ref a0), (1, .int x1), (2, .int x2), (3, .int x3)] := hl
  have hS : va_S (· ∈ g.L) s.heap s.heap [] := va_S.rf
  unfold F_Model_has at h
  refine lv_aload_n hx hb d_Model_has_0 rfl (lv_at hl 0 rfl) ?_
  refine lv_iload_n hx hb d_Model_has_1 rfl (lv_at hl 1 rfl) ?_
  refine lv_iload_n hx hb d_Model_has_2 rfl (lv_at hl 2 rfl) ?_
  refine lv_iload_n hx hb d_Model_has_3 rfl (lv_at hl 3 rfl) ?_
  refine lv_aload_n hx hb d_Model_has_4 rfl (lv_at hl 0 rfl) ?_
  refine gg_get (C := R_Model) (T := F_Model) (N := 23) (ci := 5) hx hb hall i_Model hown hK hP o0.1 (wE_5 o0.2) rfl 9 (by decide) (hall _ m_366) (fun _ h9 => h9) rfl d_Model_has_5 ?_
  have o_5 : okA g 6 6 (R a0 9) := ty_Model_9 hT o0
  refine lv_iload_n hx hb d_Model_has_8 rfl (lv_at hl 1 rfl) ?_
  obtain ⟨hi9, h⟩ := chk_el h
  refine gg_iald hx hb hK hP o_5 hi9 d_Model_has_9 ?_
  obtain ⟨v10, e10, h⟩ := ob_el h
  refine gg_Vi (As := [.int x1, .int x2, .int x3, .int (I (R a0 9) x1.toNatClampNeg)]) (rest := []) (ci := 5) (C := R_Model) (T := F_Model) (N := 23) ⟨hx, hb, hml, hown, hall⟩ (c_Model_find l hT o0 e10) (cwV 4 hall (gV m_373 m_374 m_375 m_338 m_372) rfl rfl rfl (by decide +kernel) ⟨Nat.le_of_ble_eq_true rfl, Nat.le_of_ble_eq_true rfl⟩) hK hP hS o0.1 (wE_5 o0.2) rfl rfl hl.1 rfl (Nat.le_of_ble_eq_true rfl) d_Model_has_10 (fun H locs hP hS => ?_)
  refine lv_if_lt hx hb d_Model_has_13 rfl (fun hc => ?_) (fun hc => ?_)
  · replace h := i_pos hc h
    refine lv_iconst (v := 0) hx hb d_Model_has_20 (by decide) ?_
    obtain rfl := Option.some.inj h
    exact gg_zret hx hb hr hlk rfl hK hP hS d_Model_has_21
  · replace h := i_neg hc h
    refine lv_iconst (v := 1) hx hb d_Model_has_16 (by decide) ?_
    refine lv_goto hx hb d_Model_has_17 rfl ?_
    obtain rfl := Option.some.inj h
    exact gg_zret hx hb hr hlk rfl hK hP hS d_Model_has_21
abbrev b_Model_knows : ByteArray := prog_7_method_18_code
def y_Model_knows : MethodName := ⟨"StampedStoreModel", "knows", "(III)Z"⟩
def w_Model_knows : List Cond := .code y_Model_knows b_Model_knows 4 (some .boolean) :: w_all
theorem d_Model_knows_0 : decode b_Model_knows 0 = .ok (.aload_n 0, 1) := by decide +kernel
theorem d_Model_knows_1 : decode b_Model_knows 1 = .ok (.iload_n 1, 1) := by decide +kernel
theorem d_Model_knows_2 : decode b_Model_knows 2 = .ok (.iload_n 2, 1) := by decide +kernel
theorem d_Model_knows_3 : decode b_Model_knows 3 = .ok (.iload_n 3, 1) := by decide +kernel
theorem d_Model_knows_4 : decode b_Model_knows 4 = .ok (.aload_n 0, 1) := by decide +kernel
theorem d_Model_knows_5 : decode b_Model_knows 5 = .ok (.getfield 35, 3) := by decide +kernel
theorem d_Model_knows_8 : decode b_Model_knows 8 = .ok (.iload_n 1, 1) := by decide +kernel
theorem d_Model_knows_9 : decode b_Model_knows 9 = .ok (.iaload, 1) := by decide +kernel
theorem d_Model_knows_10 : decode b_Model_knows 10 = .ok (.invokevirtual 96, 3) := by decide +kernel
theorem d_Model_knows_13 : decode b_Model_knows 13 = .ok (.ifCond .lt 7, 3) := by decide +kernel
theorem d_Model_knows_16 : decode b_Model_knows 16 = .ok (.iconst 1, 1) := by decide +kernel
theorem d_Model_knows_17 : decode b_Model_knows 17 = .ok (.goto 4, 3) := by decide +kernel
theorem d_Model_knows_20 : decode b_Model_knows 20 = .ok (.iconst 0, 1) := by decide +kernel
theorem d_Model_knows_21 : decode b_Model_knows 21 = .ok (.ireturn, 1) := by decide +kernel
def F_Model_knows (R : Nat → Nat → Nat) (a0 : Nat) (x1 : Int32) (x2 : Int32) (x3 : Int32) (I : St) : Option Int32 := (chk x1 6 ((ob (F_Model_find R a0 x1 x2 x3 (I (R a0 10) x1.toNatClampNeg) I) (fun v10 => (if v10 < 0 then some (0 : Int32) else some (1 : Int32))))))
set_option maxHeartbeats 4000000 in
set_option maxRecDepth 100000 in
theorem c_Model_knows (l : Launch) {g : Sg} {R : Nat → Nat → Nat} (hT : Ty g R) {a0 : Nat} (o0 : okA g 5 0 a0) {x1 : Int32} {x2 : Int32} {x3 : Int32} {I : St} {v : Int32} (h : F_Model_knows R a0 x1 x2 x3 I = some v) : Cti l g R y_Model_knows w_Model_knows 1 26 [.ref a0, .int x1, .int x2, .int x3] I v I := by
  unfold Cti
  refine Met.ofW (cc := b_Model_knows) (maxL := 4) (ret := (some .boolean)) (by decide) rfl ?_
  intro p e s m args below meth c s₁ B hml hv
  obtain ⟨rfl, hP, hK⟩ := hv
  have hts := atoms_spec (ws := w_Model_knows) B.pre
  have hall : ∀ w ∈ w_all, w.before _ s = true := fun w hw => hts w (List.mem_cons_of_mem _ hw)
  have hown : s.vm.findClass R_Model = some m.cls := findClass_of_methodNamed B.named
  have hx := B.exec
  have hb := B.bytes
  have hr := B.returns
  have hlk := B.notSynchronized
  have cx : Cx p s m _ meth c g R R_Model b_Model_knows 4 (some .boolean) := ⟨hx, hb, hml, hr, hlk, hown, hall, hT, hK⟩
  have hl := lv_entry ([.ref a0, .int x1, .int x2, .int x3]) (n := 4) (Nat.le_of_ble_eq_true rfl)
  rw [lg_entry_eq]
  generalize (lg_sl ([.ref a0, .int x1, .int x2, .int x3]) ++ List.replicate (4 - (lg_sl ([.ref a0, .int x1, .int x2, .int x3])).length) Slot.unset).toArray = ls at hl ⊢
  have hl : lv_has ls 4 [(0, .ref a0), (1, .int x1), (2, .int x2), (3, .int x3)] := hl
  have hS : va_S (· ∈ g.L) s.heap s.heap [] := va_S.rf
  unfold F_Model_knows at h
  refine lv_aload_n hx hb d_Model_knows_0 rfl (lv_at hl 0 rfl) ?_
  refine lv_iload_n hx hb d_Model_knows_1 rfl (lv_at hl 1 rfl) ?_
  refine lv_iload_n hx hb d_Model_knows_2 rfl (lv_at hl 2 rfl) ?_
  refine lv_iload_n hx hb d_Model_knows_3 rfl (lv_at hl 3 rfl) ?_
  refine lv_aload_n hx hb d_Model_knows_4 rfl (lv_at hl 0 rfl) ?_
  refine gg_get (C := R_Model) (T := F_Model) (N := 23) (ci := 5) hx hb hall i_Model hown hK hP o0.1 (wE_5 o0.2) rfl 10 (by decide) (hall _ m_349) (fun _ h9 => h9) rfl d_Model_knows_5 ?_
  have o_5 : okA g 6 6 (R a0 10) := ty_Model_10 hT o0
  refine lv_iload_n hx hb d_Model_knows_8 rfl (lv_at hl 1 rfl) ?_
  obtain ⟨hi9, h⟩ := chk_el h
  refine gg_iald hx hb hK hP o_5 hi9 d_Model_knows_9 ?_
  obtain ⟨v10, e10, h⟩ := ob_el h
  refine gg_Vi (As := [.int x1, .int x2, .int x3, .int (I (R a0 10) x1.toNatClampNeg)]) (rest := []) (ci := 5) (C := R_Model) (T := F_Model) (N := 23) ⟨hx, hb, hml, hown, hall⟩ (c_Model_find l hT o0 e10) (cwV 4 hall (gV m_373 m_374 m_375 m_338 m_372) rfl rfl rfl (by decide +kernel) ⟨Nat.le_of_ble_eq_true rfl, Nat.le_of_ble_eq_true rfl⟩) hK hP hS o0.1 (wE_5 o0.2) rfl rfl hl.1 rfl (Nat.le_of_ble_eq_true rfl) d_Model_knows_10 (fun H locs hP hS => ?_)
  refine lv_if_lt hx hb d_Model_knows_13 rfl (fun hc => ?_) (fun hc => ?_)
  · replace h := i_pos hc h
    refine lv_iconst (v := 0) hx hb d_Model_knows_20 (by decide) ?_
    obtain rfl := Option.some.inj h
    exact gg_zret hx hb hr hlk rfl hK hP hS d_Model_knows_21
  · replace h := i_neg hc h
    refine lv_iconst (v := 1) hx hb d_Model_knows_16 (by decide) ?_
    refine lv_goto hx hb d_Model_knows_17 rfl ?_
    obtain rfl := Option.some.inj h
    exact gg_zret hx hb hr hlk rfl hK hP hS d_Model_knows_21
abbrev b_Model_lastEpoch : ByteArray := prog_7_method_19_code
def y_Model_lastEpoch : MethodName := ⟨"StampedStoreModel", "lastEpoch", "(I)I"⟩
def w_Model_lastEpoch : List Cond := .code y_Model_lastEpoch b_Model_lastEpoch 2 (some .int) :: w_all
theorem d_Model_lastEpoch_0 : decode b_Model_lastEpoch 0 = .ok (.aload_n 0, 1) := by decide +kernel
theorem d_Model_lastEpoch_1 : decode b_Model_lastEpoch 1 = .ok (.getfield 32, 3) := by decide +kernel
theorem d_Model_lastEpoch_4 : decode b_Model_lastEpoch 4 = .ok (.iload_n 1, 1) := by decide +kernel
theorem d_Model_lastEpoch_5 : decode b_Model_lastEpoch 5 = .ok (.iaload, 1) := by decide +kernel
theorem d_Model_lastEpoch_6 : decode b_Model_lastEpoch 6 = .ok (.ifCond .ne 7, 3) := by decide +kernel
theorem d_Model_lastEpoch_9 : decode b_Model_lastEpoch 9 = .ok (.iconst 0, 1) := by decide +kernel
theorem d_Model_lastEpoch_10 : decode b_Model_lastEpoch 10 = .ok (.goto 21, 3) := by decide +kernel
theorem d_Model_lastEpoch_13 : decode b_Model_lastEpoch 13 = .ok (.aload_n 0, 1) := by decide +kernel
theorem d_Model_lastEpoch_14 : decode b_Model_lastEpoch 14 = .ok (.getfield 38, 3) := by decide +kernel
theorem d_Model_lastEpoch_17 : decode b_Model_lastEpoch 17 = .ok (.bipush 60, 2) := by decide +kernel
theorem d_Model_lastEpoch_19 : decode b_Model_lastEpoch 19 = .ok (.iload_n 1, 1) := by decide +kernel
theorem d_Model_lastEpoch_20 : decode b_Model_lastEpoch 20 = .ok (.imul, 1) := by decide +kernel
theorem d_Model_lastEpoch_21 : decode b_Model_lastEpoch 21 = .ok (.aload_n 0, 1) := by decide +kernel
theorem d_Model_lastEpoch_22 : decode b_Model_lastEpoch 22 = .ok (.getfield 32, 3) := by decide +kernel
theorem d_Model_lastEpoch_25 : decode b_Model_lastEpoch 25 = .ok (.iload_n 1, 1) := by decide +kernel
theorem d_Model_lastEpoch_26 : decode b_Model_lastEpoch 26 = .ok (.iaload, 1) := by decide +kernel
theorem d_Model_lastEpoch_27 : decode b_Model_lastEpoch 27 = .ok (.iadd, 1) := by decide +kernel
theorem d_Model_lastEpoch_28 : decode b_Model_lastEpoch 28 = .ok (.iconst 1, 1) := by decide +kernel
theorem d_Model_lastEpoch_29 : decode b_Model_lastEpoch 29 = .ok (.isub, 1) := by decide +kernel
theorem d_Model_lastEpoch_30 : decode b_Model_lastEpoch 30 = .ok (.iaload, 1) := by decide +kernel
theorem d_Model_lastEpoch_31 : decode b_Model_lastEpoch 31 = .ok (.ireturn, 1) := by decide +kernel
def F_Model_lastEpoch (R : Nat → Nat → Nat) (a0 : Nat) (x1 : Int32) (I : St) : Option Int32 := (chk x1 6 ((if (I (R a0 9) x1.toNatClampNeg) = 0 then some (0 : Int32) else (chk x1 6 ((chk ((((60 : Int32) * x1) + (I (R a0 9) x1.toNatClampNeg)) - (1 : Int32)) 360 (some (I (R a0 11) ((((60 : Int32) * x1) + (I (R a0 9) x1.toNatClampNeg)) - (1 : Int32)).toNatClampNeg))))))))
set_option maxHeartbeats 4000000 in
set_option maxRecDepth 100000 in
theorem c_Model_lastEpoch (l : Launch) {g : Sg} {R : Nat → Nat → Nat} (hT : Ty g R) {a0 : Nat} (o0 : okA g 5 0 a0) {x1 : Int32} {I : St} {v : Int32} (h : F_Model_lastEpoch R a0 x1 I = some v) : Cti l g R y_Model_lastEpoch w_Model_lastEpoch 0 0 [.ref a0, .int x1] I v I := by
  unfold Cti
  refine Met.ofW (cc := b_Model_lastEpoch) (maxL := 2) (ret := (some .int)) (by decide) rfl ?_
  intro p e s m args below meth c s₁ B hml hv
  obtain ⟨rfl, hP, hK⟩ := hv
  have hts := atoms_spec (ws := w_Model_lastEpoch) B.pre
  have hall : ∀ w ∈ w_all, w.before _ s = true := fun w hw => hts w (List.mem_cons_of_mem _ hw)
  have hown : s.vm.findClass R_Model = some m.cls := findClass_of_methodNamed B.named
  have hx := B.exec
  have hb := B.bytes
  have hr := B.returns
  have hlk := B.notSynchronized
  have cx : Cx p s m _ meth c g R R_Model b_Model_lastEpoch 2 (some .int) := ⟨hx, hb, hml, hr, hlk, hown, hall, hT, hK⟩
  have hl := lv_entry ([.ref a0, .int x1]) (n := 2) (Nat.le_of_ble_eq_true rfl)
  rw [lg_entry_eq]
  generalize (lg_sl ([.ref a0, .int x1]) ++ List.replicate (2 - (lg_sl ([.ref a0, .int x1])).length) Slot.unset).toArray = ls at hl ⊢
  have hl : lv_has ls 2 [(0, .ref a0), (1, .int x1)] := hl
  have hS : va_S (· ∈ g.L) s.heap s.heap [] := va_S.rf
  unfold F_Model_lastEpoch at h
  refine lv_aload_n hx hb d_Model_lastEpoch_0 rfl (lv_at hl 0 rfl) ?_
  refine gg_get (C := R_Model) (T := F_Model) (N := 23) (ci := 5) hx hb hall i_Model hown hK hP o0.1 (wE_5 o0.2) rfl 9 (by decide) (hall _ m_366) (fun _ h9 => h9) rfl d_Model_lastEpoch_1 ?_
  have o_1 : okA g 6 6 (R a0 9) := ty_Model_9 hT o0
  refine lv_iload_n hx hb d_Model_lastEpoch_4 rfl (lv_at hl 1 rfl) ?_
  obtain ⟨hi5, h⟩ := chk_el h
  refine gg_iald hx hb hK hP o_1 hi5 d_Model_lastEpoch_5 ?_
  refine lv_if_ne hx hb d_Model_lastEpoch_6 rfl (fun hc => ?_) (fun hc => ?_)
  · replace h := i_neg hc h
    refine lv_aload_n hx hb d_Model_lastEpoch_13 rfl (lv_at hl 0 rfl) ?_
    refine gg_get (C := R_Model) (T := F_Model) (N := 23) (ci := 5) hx hb hall i_Model hown hK hP o0.1 (wE_5 o0.2) rfl 11 (by decide) (hall _ m_353) (fun _ h9 => h9) rfl d_Model_lastEpoch_14 ?_
    have o_14 : okA g 6 360 (R a0 11) := ty_Model_11 hT o0
    refine lv_bipush (v := 60) hx hb d_Model_lastEpoch_17 (by decide) ?_
    refine lv_iload_n hx hb d_Model_lastEpoch_19 rfl (lv_at hl 1 rfl) ?_
    refine lv_imul hx hb d_Model_lastEpoch_20 ?_
    refine lv_aload_n hx hb d_Model_lastEpoch_21 rfl (lv_at hl 0 rfl) ?_
    refine gg_get (C := R_Model) (T := F_Model) (N := 23) (ci := 5) hx hb hall i_Model hown hK hP o0.1 (wE_5 o0.2) rfl 9 (by decide) (hall _ m_366) (fun _ h9 => h9) rfl d_Model_lastEpoch_22 ?_
    have o_22 : okA g 6 6 (R a0 9) := ty_Model_9 hT o0
    refine lv_iload_n hx hb d_Model_lastEpoch_25 rfl (lv_at hl 1 rfl) ?_
    obtain ⟨hi26, h⟩ := chk_el h
    refine gg_iald hx hb hK hP o_22 hi26 d_Model_lastEpoch_26 ?_
    refine lv_iadd hx hb d_Model_lastEpoch_27 ?_
    refine lv_iconst (v := 1) hx hb d_Model_lastEpoch_28 (by decide) ?_
    refine lv_isub hx hb d_Model_lastEpoch_29 ?_
    obtain ⟨hi30, h⟩ := chk_el h
    refine gg_iald hx hb hK hP o_14 hi30 d_Model_lastEpoch_30 ?_
    obtain rfl := Option.some.inj h
    exact gg_iret hx hb hr hlk hK hP hS d_Model_lastEpoch_31
  · replace h := i_pos hc h
    refine lv_iconst (v := 0) hx hb d_Model_lastEpoch_9 (by decide) ?_
    refine lv_goto hx hb d_Model_lastEpoch_10 rfl ?_
    obtain rfl := Option.some.inj h
    exact gg_iret hx hb hr hlk hK hP hS d_Model_lastEpoch_31
abbrev b_Model_raise : ByteArray := prog_7_method_20_code
def y_Model_raise : MethodName := ⟨"StampedStoreModel", "raise", "(II)V"⟩
def w_Model_raise : List Cond := .code y_Model_raise b_Model_raise 3 none :: w_all
theorem d_Model_raise_0 : decode b_Model_raise 0 = .ok (.aload_n 0, 1) := by decide +kernel
theorem d_Model_raise_1 : decode b_Model_raise 1 = .ok (.getfield 26, 3) := by decide +kernel
theorem d_Model_raise_4 : decode b_Model_raise 4 = .ok (.iload_n 1, 1) := by decide +kernel
theorem d_Model_raise_5 : decode b_Model_raise 5 = .ok (.aload_n 0, 1) := by decide +kernel
theorem d_Model_raise_6 : decode b_Model_raise 6 = .ok (.getfield 26, 3) := by decide +kernel
theorem d_Model_raise_9 : decode b_Model_raise 9 = .ok (.iload_n 1, 1) := by decide +kernel
theorem d_Model_raise_10 : decode b_Model_raise 10 = .ok (.baload, 1) := by decide +kernel
theorem d_Model_raise_11 : decode b_Model_raise 11 = .ok (.ifCond .eq 17, 3) := by decide +kernel
theorem d_Model_raise_14 : decode b_Model_raise 14 = .ok (.aload_n 0, 1) := by decide +kernel
theorem d_Model_raise_15 : decode b_Model_raise 15 = .ok (.getfield 17, 3) := by decide +kernel
theorem d_Model_raise_18 : decode b_Model_raise 18 = .ok (.iload_n 1, 1) := by decide +kernel
theorem d_Model_raise_19 : decode b_Model_raise 19 = .ok (.iaload, 1) := by decide +kernel
theorem d_Model_raise_20 : decode b_Model_raise 20 = .ok (.iload_n 2, 1) := by decide +kernel
theorem d_Model_raise_21 : decode b_Model_raise 21 = .ok (.if_icmp .ne 7, 3) := by decide +kernel
theorem d_Model_raise_24 : decode b_Model_raise 24 = .ok (.iconst 1, 1) := by decide +kernel
theorem d_Model_raise_25 : decode b_Model_raise 25 = .ok (.goto 4, 3) := by decide +kernel
theorem d_Model_raise_28 : decode b_Model_raise 28 = .ok (.iconst 0, 1) := by decide +kernel
theorem d_Model_raise_29 : decode b_Model_raise 29 = .ok (.bastore, 1) := by decide +kernel
theorem d_Model_raise_30 : decode b_Model_raise 30 = .ok (.aload_n 0, 1) := by decide +kernel
theorem d_Model_raise_31 : decode b_Model_raise 31 = .ok (.getfield 17, 3) := by decide +kernel
theorem d_Model_raise_34 : decode b_Model_raise 34 = .ok (.iload_n 1, 1) := by decide +kernel
theorem d_Model_raise_35 : decode b_Model_raise 35 = .ok (.iload_n 2, 1) := by decide +kernel
theorem d_Model_raise_36 : decode b_Model_raise 36 = .ok (.iastore, 1) := by decide +kernel
theorem d_Model_raise_37 : decode b_Model_raise 37 = .ok (.return_, 1) := by decide +kernel
def B_Model_raise_29 (R : Nat → Nat → Nat) (a0 : Nat) (x1 : Int32) (x2 : Int32) (u0 : Nat) (t1 : Int32) (t2 : Int32) (I : St) : Option St := (chk t1 6 (ap (up2 I u0 t1.toNatClampNeg (vp_nar .boolean t2)) (fun I29 => (chk x1 6 (ap (up2 I29 (R a0 4) x1.toNatClampNeg x2) (fun I36 => some I36))))))
set_option maxHeartbeats 4000000 in
set_option maxRecDepth 100000 in
theorem b_Model_raise_29 {p : Program} {l : Launch} {e : Env} {s : State} {m : MethodId} {args : Array Value} {below : List Frame} {meth : Method} {c : Code} {g : Sg} {R : Nat → Nat → Nat} {J : St} (cx : Cx p s m args meth c g R R_Model b_Model_raise 3 none) : ∀ (a0 : Nat) (x1 : Int32) (x2 : Int32) (u0 : Nat) (t1 : Int32) (t2 : Int32) (I : St) (H : Heap) (locs : List Loc) (ls : Array Slot), okA g 5 0 a0 → okA g 7 6 u0 → B_Model_raise_29 R a0 x1 x2 u0 t1 t2 I = some J → wW g R I H → va_S (· ∈ g.L) s.heap H locs → lv_has ls 3 [(0, .ref a0), (1, .int x1), (2, .int x2)] → W p l e { frames := 0, cells := 0, slots := 0, locals := 0 } s m args below meth c H locs 0 0 (MQ below (Qu g R J) args s 0 0 (· ∈ g.L)) (F0 m 29 ls [.int t2, .int t1, .ref u0]) := by
  have ⟨hx, hb, hml, hr, hlk, hown, hall, hT, hK⟩ := cx
  intro a0 x1 x2 u0 t1 t2 I H locs ls o0 q0 h hP hS hl
  unfold B_Model_raise_29 at h
  obtain ⟨hi29, h⟩ := chk_el h
  refine gg_zast hx hb hT.1 hK hP hS q0 hi29 d_Model_raise_29 (fun I29 H locs e29 hP hS => ?_)
  replace h := ap_el e29 h
  refine lv_aload_n hx hb d_Model_raise_30 rfl (lv_at hl 0 rfl) ?_
  refine gg_get (C := R_Model) (T := F_Model) (N := 23) (ci := 5) hx hb hall i_Model hown hK hP o0.1 (wE_5 o0.2) rfl 4 (by decide) (hall _ m_354) (fun _ h9 => h9) rfl d_Model_raise_31 ?_
  have o_31 : okA g 6 6 (R a0 4) := ty_Model_4 hT o0
  refine lv_iload_n hx hb d_Model_raise_34 rfl (lv_at hl 1 rfl) ?_
  refine lv_iload_n hx hb d_Model_raise_35 rfl (lv_at hl 2 rfl) ?_
  obtain ⟨hi36, h⟩ := chk_el h
  refine gg_iast hx hb hT.1 hK hP hS o_31 hi36 d_Model_raise_36 (fun I36 H locs e36 hP hS => ?_)
  replace h := ap_el e36 h
  obtain rfl := Option.some.inj h
  exact gg_vret hx hb hr hlk hK hP hS d_Model_raise_37
def B_Model_raise_28 (R : Nat → Nat → Nat) (a0 : Nat) (x1 : Int32) (x2 : Int32) (u0 : Nat) (t1 : Int32) (I : St) : Option St := B_Model_raise_29 R a0 x1 x2 u0 t1 (0 : Int32) I
set_option maxHeartbeats 4000000 in
set_option maxRecDepth 100000 in
theorem b_Model_raise_28 {p : Program} {l : Launch} {e : Env} {s : State} {m : MethodId} {args : Array Value} {below : List Frame} {meth : Method} {c : Code} {g : Sg} {R : Nat → Nat → Nat} {J : St} (cx : Cx p s m args meth c g R R_Model b_Model_raise 3 none) : ∀ (a0 : Nat) (x1 : Int32) (x2 : Int32) (u0 : Nat) (t1 : Int32) (I : St) (H : Heap) (locs : List Loc) (ls : Array Slot), okA g 5 0 a0 → okA g 7 6 u0 → B_Model_raise_28 R a0 x1 x2 u0 t1 I = some J → wW g R I H → va_S (· ∈ g.L) s.heap H locs → lv_has ls 3 [(0, .ref a0), (1, .int x1), (2, .int x2)] → W p l e { frames := 0, cells := 0, slots := 0, locals := 0 } s m args below meth c H locs 0 0 (MQ below (Qu g R J) args s 0 0 (· ∈ g.L)) (F0 m 28 ls [.int t1, .ref u0]) := by
  have ⟨hx, hb, hml, hr, hlk, hown, hall, hT, hK⟩ := cx
  intro a0 x1 x2 u0 t1 I H locs ls o0 q0 h hP hS hl
  unfold B_Model_raise_28 at h
  refine lv_iconst (v := 0) hx hb d_Model_raise_28 (by decide) ?_
  exact b_Model_raise_29 cx _ _ _ _ _ _ _ _ _ _ o0 q0 h hP hS (lv_sub hl [0, 1, 2] rfl)
def F_Model_raise (R : Nat → Nat → Nat) (a0 : Nat) (x1 : Int32) (x2 : Int32) (I : St) : Option St := (chk x1 6 ((if (I (R a0 7) x1.toNatClampNeg) = 0 then B_Model_raise_28 R a0 x1 x2 (R a0 7) x1 I else (chk x1 6 ((if (I (R a0 4) x1.toNatClampNeg) = x2 then B_Model_raise_29 R a0 x1 x2 (R a0 7) x1 (1 : Int32) I else B_Model_raise_28 R a0 x1 x2 (R a0 7) x1 I))))))
set_option maxHeartbeats 4000000 in
set_option maxRecDepth 100000 in
theorem c_Model_raise (l : Launch) {g : Sg} {R : Nat → Nat → Nat} (hT : Ty g R) {a0 : Nat} (o0 : okA g 5 0 a0) {x1 : Int32} {x2 : Int32} {I : St} {J : St} (h : F_Model_raise R a0 x1 x2 I = some J) : Ctv l g R y_Model_raise w_Model_raise 0 0 [.ref a0, .int x1, .int x2] I J := by
  unfold Ctv
  refine Met.ofW (cc := b_Model_raise) (maxL := 3) (ret := none) (by decide) rfl ?_
  intro p e s m args below meth c s₁ B hml hv
  obtain ⟨rfl, hP, hK⟩ := hv
  have hts := atoms_spec (ws := w_Model_raise) B.pre
  have hall : ∀ w ∈ w_all, w.before _ s = true := fun w hw => hts w (List.mem_cons_of_mem _ hw)
  have hown : s.vm.findClass R_Model = some m.cls := findClass_of_methodNamed B.named
  have hx := B.exec
  have hb := B.bytes
  have hr := B.returns
  have hlk := B.notSynchronized
  have cx : Cx p s m _ meth c g R R_Model b_Model_raise 3 none := ⟨hx, hb, hml, hr, hlk, hown, hall, hT, hK⟩
  have hl := lv_entry ([.ref a0, .int x1, .int x2]) (n := 3) (Nat.le_of_ble_eq_true rfl)
  rw [lg_entry_eq]
  generalize (lg_sl ([.ref a0, .int x1, .int x2]) ++ List.replicate (3 - (lg_sl ([.ref a0, .int x1, .int x2])).length) Slot.unset).toArray = ls at hl ⊢
  have hl : lv_has ls 3 [(0, .ref a0), (1, .int x1), (2, .int x2)] := hl
  have hS : va_S (· ∈ g.L) s.heap s.heap [] := va_S.rf
  unfold F_Model_raise at h
  refine lv_aload_n hx hb d_Model_raise_0 rfl (lv_at hl 0 rfl) ?_
  refine gg_get (C := R_Model) (T := F_Model) (N := 23) (ci := 5) hx hb hall i_Model hown hK hP o0.1 (wE_5 o0.2) rfl 7 (by decide) (hall _ m_341) (fun _ h9 => h9) rfl d_Model_raise_1 ?_
  have o_1 : okA g 7 6 (R a0 7) := ty_Model_7 hT o0
  refine lv_iload_n hx hb d_Model_raise_4 rfl (lv_at hl 1 rfl) ?_
  refine lv_aload_n hx hb d_Model_raise_5 rfl (lv_at hl 0 rfl) ?_
  refine gg_get (C := R_Model) (T := F_Model) (N := 23) (ci := 5) hx hb hall i_Model hown hK hP o0.1 (wE_5 o0.2) rfl 7 (by decide) (hall _ m_341) (fun _ h9 => h9) rfl d_Model_raise_6 ?_
  have o_6 : okA g 7 6 (R a0 7) := ty_Model_7 hT o0
  refine lv_iload_n hx hb d_Model_raise_9 rfl (lv_at hl 1 rfl) ?_
  obtain ⟨hi10, h⟩ := chk_el h
  refine gg_zald hx hb hK hP o_6 hi10 d_Model_raise_10 ?_
  refine lv_if_eq hx hb d_Model_raise_11 rfl (fun hc => ?_) (fun hc => ?_)
  · replace h := i_pos hc h
    exact b_Model_raise_28 cx _ _ _ _ _ _ _ _ _ o0 o_1 h hP hS (lv_sub hl [0, 1, 2] rfl)
  · replace h := i_neg hc h
    refine lv_aload_n hx hb d_Model_raise_14 rfl (lv_at hl 0 rfl) ?_
    refine gg_get (C := R_Model) (T := F_Model) (N := 23) (ci := 5) hx hb hall i_Model hown hK hP o0.1 (wE_5 o0.2) rfl 4 (by decide) (hall _ m_354) (fun _ h9 => h9) rfl d_Model_raise_15 ?_
    have o_15 : okA g 6 6 (R a0 4) := ty_Model_4 hT o0
    refine lv_iload_n hx hb d_Model_raise_18 rfl (lv_at hl 1 rfl) ?_
    obtain ⟨hi19, h⟩ := chk_el h
    refine gg_iald hx hb hK hP o_15 hi19 d_Model_raise_19 ?_
    refine lv_iload_n hx hb d_Model_raise_20 rfl (lv_at hl 2 rfl) ?_
    refine lv_icmp_ne hx hb d_Model_raise_21 rfl (fun hc => ?_) (fun hc => ?_)
    · replace h := i_neg hc h
      exact b_Model_raise_28 cx _ _ _ _ _ _ _ _ _ o0 o_1 h hP hS (lv_sub hl [0, 1, 2] rfl)
    · replace h := i_pos hc h
      refine lv_iconst (v := 1) hx hb d_Model_raise_24 (by decide) ?_
      refine lv_goto hx hb d_Model_raise_25 rfl ?_
      exact b_Model_raise_29 cx _ _ _ _ _ _ _ _ _ _ o0 o_1 h hP hS (lv_sub hl [0, 1, 2] rfl)
abbrev b_Model_grants : ByteArray := prog_7_method_21_code
def y_Model_grants : MethodName := ⟨"StampedStoreModel", "grants", "(III)Z"⟩
def w_Model_grants : List Cond := .code y_Model_grants b_Model_grants 6 (some .boolean) :: w_all
theorem d_Model_grants_0 : decode b_Model_grants 0 = .ok (.aload_n 0, 1) := by decide +kernel
theorem d_Model_grants_1 : decode b_Model_grants 1 = .ok (.getfield 23, 3) := by decide +kernel
theorem d_Model_grants_4 : decode b_Model_grants 4 = .ok (.iload_n 1, 1) := by decide +kernel
theorem d_Model_grants_5 : decode b_Model_grants 5 = .ok (.iaload, 1) := by decide +kernel
theorem d_Model_grants_6 : decode b_Model_grants 6 = .ok (.iconst (-1), 1) := by decide +kernel
theorem d_Model_grants_7 : decode b_Model_grants 7 = .ok (.if_icmp .eq 27, 3) := by decide +kernel
theorem d_Model_grants_10 : decode b_Model_grants 10 = .ok (.aload_n 0, 1) := by decide +kernel
theorem d_Model_grants_11 : decode b_Model_grants 11 = .ok (.iload_n 1, 1) := by decide +kernel
theorem d_Model_grants_12 : decode b_Model_grants 12 = .ok (.invokevirtual 100, 3) := by decide +kernel
theorem d_Model_grants_15 : decode b_Model_grants 15 = .ok (.aload_n 0, 1) := by decide +kernel
theorem d_Model_grants_16 : decode b_Model_grants 16 = .ok (.getfield 20, 3) := by decide +kernel
theorem d_Model_grants_19 : decode b_Model_grants 19 = .ok (.iload_n 1, 1) := by decide +kernel
theorem d_Model_grants_20 : decode b_Model_grants 20 = .ok (.iaload, 1) := by decide +kernel
theorem d_Model_grants_21 : decode b_Model_grants 21 = .ok (.if_icmp .gt 13, 3) := by decide +kernel
theorem d_Model_grants_24 : decode b_Model_grants 24 = .ok (.aload_n 0, 1) := by decide +kernel
theorem d_Model_grants_25 : decode b_Model_grants 25 = .ok (.getfield 23, 3) := by decide +kernel
theorem d_Model_grants_28 : decode b_Model_grants 28 = .ok (.iload_n 1, 1) := by decide +kernel
theorem d_Model_grants_29 : decode b_Model_grants 29 = .ok (.iaload, 1) := by decide +kernel
theorem d_Model_grants_30 : decode b_Model_grants 30 = .ok (.iload_n 2, 1) := by decide +kernel
theorem d_Model_grants_31 : decode b_Model_grants 31 = .ok (.if_icmp .ne 7, 3) := by decide +kernel
theorem d_Model_grants_34 : decode b_Model_grants 34 = .ok (.iconst 1, 1) := by decide +kernel
theorem d_Model_grants_35 : decode b_Model_grants 35 = .ok (.goto 4, 3) := by decide +kernel
theorem d_Model_grants_38 : decode b_Model_grants 38 = .ok (.iconst 0, 1) := by decide +kernel
theorem d_Model_grants_39 : decode b_Model_grants 39 = .ok (.istore 4, 2) := by decide +kernel
theorem d_Model_grants_41 : decode b_Model_grants 41 = .ok (.aload_n 0, 1) := by decide +kernel
theorem d_Model_grants_42 : decode b_Model_grants 42 = .ok (.iload_n 2, 1) := by decide +kernel
theorem d_Model_grants_43 : decode b_Model_grants 43 = .ok (.invokevirtual 103, 3) := by decide +kernel
theorem d_Model_grants_46 : decode b_Model_grants 46 = .ok (.aload_n 0, 1) := by decide +kernel
theorem d_Model_grants_47 : decode b_Model_grants 47 = .ok (.iload_n 1, 1) := by decide +kernel
theorem d_Model_grants_48 : decode b_Model_grants 48 = .ok (.invokevirtual 103, 3) := by decide +kernel
theorem d_Model_grants_51 : decode b_Model_grants 51 = .ok (.if_icmp .lt 31, 3) := by decide +kernel
theorem d_Model_grants_54 : decode b_Model_grants 54 = .ok (.aload_n 0, 1) := by decide +kernel
theorem d_Model_grants_55 : decode b_Model_grants 55 = .ok (.iload_n 2, 1) := by decide +kernel
theorem d_Model_grants_56 : decode b_Model_grants 56 = .ok (.invokevirtual 103, 3) := by decide +kernel
theorem d_Model_grants_59 : decode b_Model_grants 59 = .ok (.aload_n 0, 1) := by decide +kernel
theorem d_Model_grants_60 : decode b_Model_grants 60 = .ok (.iload_n 1, 1) := by decide +kernel
theorem d_Model_grants_61 : decode b_Model_grants 61 = .ok (.invokevirtual 103, 3) := by decide +kernel
theorem d_Model_grants_64 : decode b_Model_grants 64 = .ok (.if_icmp .ne 22, 3) := by decide +kernel
theorem d_Model_grants_67 : decode b_Model_grants 67 = .ok (.aload_n 0, 1) := by decide +kernel
theorem d_Model_grants_68 : decode b_Model_grants 68 = .ok (.getfield 32, 3) := by decide +kernel
theorem d_Model_grants_71 : decode b_Model_grants 71 = .ok (.iload_n 2, 1) := by decide +kernel
theorem d_Model_grants_72 : decode b_Model_grants 72 = .ok (.iaload, 1) := by decide +kernel
theorem d_Model_grants_73 : decode b_Model_grants 73 = .ok (.aload_n 0, 1) := by decide +kernel
theorem d_Model_grants_74 : decode b_Model_grants 74 = .ok (.getfield 32, 3) := by decide +kernel
theorem d_Model_grants_77 : decode b_Model_grants 77 = .ok (.iload_n 1, 1) := by decide +kernel
theorem d_Model_grants_78 : decode b_Model_grants 78 = .ok (.iaload, 1) := by decide +kernel
theorem d_Model_grants_79 : decode b_Model_grants 79 = .ok (.if_icmp .ge 7, 3) := by decide +kernel
theorem d_Model_grants_82 : decode b_Model_grants 82 = .ok (.iconst 1, 1) := by decide +kernel
theorem d_Model_grants_83 : decode b_Model_grants 83 = .ok (.goto 4, 3) := by decide +kernel
theorem d_Model_grants_86 : decode b_Model_grants 86 = .ok (.iconst 0, 1) := by decide +kernel
theorem d_Model_grants_87 : decode b_Model_grants 87 = .ok (.istore 5, 2) := by decide +kernel
theorem d_Model_grants_89 : decode b_Model_grants 89 = .ok (.aload_n 0, 1) := by decide +kernel
theorem d_Model_grants_90 : decode b_Model_grants 90 = .ok (.getfield 7, 3) := by decide +kernel
theorem d_Model_grants_93 : decode b_Model_grants 93 = .ok (.iload_n 1, 1) := by decide +kernel
theorem d_Model_grants_94 : decode b_Model_grants 94 = .ok (.baload, 1) := by decide +kernel
theorem d_Model_grants_95 : decode b_Model_grants 95 = .ok (.ifCond .ne 27, 3) := by decide +kernel
theorem d_Model_grants_98 : decode b_Model_grants 98 = .ok (.aload_n 0, 1) := by decide +kernel
theorem d_Model_grants_99 : decode b_Model_grants 99 = .ok (.getfield 17, 3) := by decide +kernel
theorem d_Model_grants_102 : decode b_Model_grants 102 = .ok (.iload_n 1, 1) := by decide +kernel
theorem d_Model_grants_103 : decode b_Model_grants 103 = .ok (.iaload, 1) := by decide +kernel
theorem d_Model_grants_104 : decode b_Model_grants 104 = .ok (.iload_n 3, 1) := by decide +kernel
theorem d_Model_grants_105 : decode b_Model_grants 105 = .ok (.if_icmp .ge 17, 3) := by decide +kernel
theorem d_Model_grants_108 : decode b_Model_grants 108 = .ok (.iload 4, 2) := by decide +kernel
theorem d_Model_grants_110 : decode b_Model_grants 110 = .ok (.ifCond .eq 12, 3) := by decide +kernel
theorem d_Model_grants_113 : decode b_Model_grants 113 = .ok (.iload 5, 2) := by decide +kernel
theorem d_Model_grants_115 : decode b_Model_grants 115 = .ok (.ifCond .ne 7, 3) := by decide +kernel
theorem d_Model_grants_118 : decode b_Model_grants 118 = .ok (.iconst 1, 1) := by decide +kernel
theorem d_Model_grants_119 : decode b_Model_grants 119 = .ok (.goto 4, 3) := by decide +kernel
theorem d_Model_grants_122 : decode b_Model_grants 122 = .ok (.iconst 0, 1) := by decide +kernel
theorem d_Model_grants_123 : decode b_Model_grants 123 = .ok (.ireturn, 1) := by decide +kernel
def B_Model_grants_122 (R : Nat → Nat → Nat) (I : St) : Option Int32 := some (0 : Int32)
set_option maxHeartbeats 4000000 in
set_option maxRecDepth 100000 in
theorem b_Model_grants_122 {p : Program} {l : Launch} {e : Env} {s : State} {m : MethodId} {args : Array Value} {below : List Frame} {meth : Method} {c : Code} {g : Sg} {R : Nat → Nat → Nat} {I : St} {v : Int32} (cx : Cx p s m args meth c g R R_Model b_Model_grants 6 (some .boolean)) : ∀ (H : Heap) (locs : List Loc) (ls : Array Slot), B_Model_grants_122 R I = some v → wW g R I H → va_S (· ∈ g.L) s.heap H locs → lv_has ls 6 [] → W p l e { frames := 1, cells := 0, slots := 0, locals := 21 } s m args below meth c H locs 0 0 (MQ below (Qi g R v I) args s 0 0 (· ∈ g.L)) (F0 m 122 ls []) := by
  have ⟨hx, hb, hml, hr, hlk, hown, hall, hT, hK⟩ := cx
  intro H locs ls h hP hS hl
  unfold B_Model_grants_122 at h
  refine lv_iconst (v := 0) hx hb d_Model_grants_122 (by decide) ?_
  obtain rfl := Option.some.inj h
  exact gg_zret hx hb hr hlk rfl hK hP hS d_Model_grants_123
def B_Model_grants_87 (R : Nat → Nat → Nat) (I : St) (a0 : Nat) (x1 : Int32) (x3 : Int32) (x4 : Int32) (t0 : Int32) : Option Int32 := (chk x1 6 ((if (I (R a0 2) x1.toNatClampNeg) = 0 then (chk x1 6 ((if x3 ≤ (I (R a0 4) x1.toNatClampNeg) then B_Model_grants_122 R I else (if x4 = 0 then B_Model_grants_122 R I else (if t0 = 0 then some (1 : Int32) else B_Model_grants_122 R I))))) else B_Model_grants_122 R I)))
set_option maxHeartbeats 4000000 in
set_option maxRecDepth 100000 in
theorem b_Model_grants_87 {p : Program} {l : Launch} {e : Env} {s : State} {m : MethodId} {args : Array Value} {below : List Frame} {meth : Method} {c : Code} {g : Sg} {R : Nat → Nat → Nat} {I : St} {v : Int32} (cx : Cx p s m args meth c g R R_Model b_Model_grants 6 (some .boolean)) : ∀ (a0 : Nat) (x1 : Int32) (x3 : Int32) (x4 : Int32) (t0 : Int32) (H : Heap) (locs : List Loc) (ls : Array Slot), okA g 5 0 a0 → B_Model_grants_87 R I a0 x1 x3 x4 t0 = some v → wW g R I H → va_S (· ∈ g.L) s.heap H locs → lv_has ls 6 [(0, .ref a0), (1, .int x1), (3, .int x3), (4, .int x4)] → W p l e { frames := 1, cells := 0, slots := 0, locals := 21 } s m args below meth c H locs 0 0 (MQ below (Qi g R v I) args s 0 0 (· ∈ g.L)) (F0 m 87 ls [.int t0]) := by
  have ⟨hx, hb, hml, hr, hlk, hown, hall, hT, hK⟩ := cx
  intro a0 x1 x3 x4 t0 H locs ls o0 h hP hS hl
  unfold B_Model_grants_87 at h
  refine lv_istore (lv' := [(5, .int t0), (0, .ref a0), (1, .int x1), (3, .int x3), (4, .int x4)]) hx hb d_Model_grants_87 hl (Nat.le_of_ble_eq_true rfl) rfl (fun ls hl => ?_)
  refine lv_aload_n hx hb d_Model_grants_89 rfl (lv_at hl 1 rfl) ?_
  refine gg_get (C := R_Model) (T := F_Model) (N := 23) (ci := 5) hx hb hall i_Model hown hK hP o0.1 (wE_5 o0.2) rfl 2 (by decide) (hall _ m_340) (fun _ h9 => h9) rfl d_Model_grants_90 ?_
  have o_90 : okA g 7 6 (R a0 2) := ty_Model_2 hT o0
  refine lv_iload_n hx hb d_Model_grants_93 rfl (lv_at hl 2 rfl) ?_
  obtain ⟨hi94, h⟩ := chk_el h
  refine gg_zald hx hb hK hP o_90 hi94 d_Model_grants_94 ?_
  refine lv_if_ne hx hb d_Model_grants_95 rfl (fun hc => ?_) (fun hc => ?_)
  · replace h := i_neg hc h
    exact b_Model_grants_122 cx _ _ _ h hP hS (lv_sub hl [] rfl)
  · replace h := i_pos hc h
    refine lv_aload_n hx hb d_Model_grants_98 rfl (lv_at hl 1 rfl) ?_
    refine gg_get (C := R_Model) (T := F_Model) (N := 23) (ci := 5) hx hb hall i_Model hown hK hP o0.1 (wE_5 o0.2) rfl 4 (by decide) (hall _ m_354) (fun _ h9 => h9) rfl d_Model_grants_99 ?_
    have o_99 : okA g 6 6 (R a0 4) := ty_Model_4 hT o0
    refine lv_iload_n hx hb d_Model_grants_102 rfl (lv_at hl 2 rfl) ?_
    obtain ⟨hi103, h⟩ := chk_el h
    refine gg_iald hx hb hK hP o_99 hi103 d_Model_grants_103 ?_
    refine lv_iload_n hx hb d_Model_grants_104 rfl (lv_at hl 3 rfl) ?_
    refine lv_icmp_ge hx hb d_Model_grants_105 rfl (fun hc => ?_) (fun hc => ?_)
    · replace h := i_pos hc h
      exact b_Model_grants_122 cx _ _ _ h hP hS (lv_sub hl [] rfl)
    · replace h := i_neg hc h
      refine lv_iload hx hb d_Model_grants_108 (lv_at hl 4 rfl) ?_
      refine lv_if_eq hx hb d_Model_grants_110 rfl (fun hc => ?_) (fun hc => ?_)
      · replace h := i_pos hc h
        exact b_Model_grants_122 cx _ _ _ h hP hS (lv_sub hl [] rfl)
      · replace h := i_neg hc h
        refine lv_iload hx hb d_Model_grants_113 (lv_at hl 0 rfl) ?_
        refine lv_if_ne hx hb d_Model_grants_115 rfl (fun hc => ?_) (fun hc => ?_)
        · replace h := i_neg hc h
          exact b_Model_grants_122 cx _ _ _ h hP hS (lv_sub hl [] rfl)
        · replace h := i_pos hc h
          refine lv_iconst (v := 1) hx hb d_Model_grants_118 (by decide) ?_
          refine lv_goto hx hb d_Model_grants_119 rfl ?_
          obtain rfl := Option.some.inj h
          exact gg_zret hx hb hr hlk rfl hK hP hS d_Model_grants_123
def B_Model_grants_82 (R : Nat → Nat → Nat) (I : St) (a0 : Nat) (x1 : Int32) (x3 : Int32) (x4 : Int32) : Option Int32 := B_Model_grants_87 R I a0 x1 x3 x4 (1 : Int32)
set_option maxHeartbeats 4000000 in
set_option maxRecDepth 100000 in
theorem b_Model_grants_82 {p : Program} {l : Launch} {e : Env} {s : State} {m : MethodId} {args : Array Value} {below : List Frame} {meth : Method} {c : Code} {g : Sg} {R : Nat → Nat → Nat} {I : St} {v : Int32} (cx : Cx p s m args meth c g R R_Model b_Model_grants 6 (some .boolean)) : ∀ (a0 : Nat) (x1 : Int32) (x3 : Int32) (x4 : Int32) (H : Heap) (locs : List Loc) (ls : Array Slot), okA g 5 0 a0 → B_Model_grants_82 R I a0 x1 x3 x4 = some v → wW g R I H → va_S (· ∈ g.L) s.heap H locs → lv_has ls 6 [(0, .ref a0), (1, .int x1), (3, .int x3), (4, .int x4)] → W p l e { frames := 1, cells := 0, slots := 0, locals := 21 } s m args below meth c H locs 0 0 (MQ below (Qi g R v I) args s 0 0 (· ∈ g.L)) (F0 m 82 ls []) := by
  have ⟨hx, hb, hml, hr, hlk, hown, hall, hT, hK⟩ := cx
  intro a0 x1 x3 x4 H locs ls o0 h hP hS hl
  unfold B_Model_grants_82 at h
  refine lv_iconst (v := 1) hx hb d_Model_grants_82 (by decide) ?_
  refine lv_goto hx hb d_Model_grants_83 rfl ?_
  exact b_Model_grants_87 cx _ _ _ _ _ _ _ _ o0 h hP hS (lv_sub hl [0, 1, 2, 3] rfl)
def B_Model_grants_86 (R : Nat → Nat → Nat) (I : St) (a0 : Nat) (x1 : Int32) (x3 : Int32) (x4 : Int32) : Option Int32 := B_Model_grants_87 R I a0 x1 x3 x4 (0 : Int32)
set_option maxHeartbeats 4000000 in
set_option maxRecDepth 100000 in
theorem b_Model_grants_86 {p : Program} {l : Launch} {e : Env} {s : State} {m : MethodId} {args : Array Value} {below : List Frame} {meth : Method} {c : Code} {g : Sg} {R : Nat → Nat → Nat} {I : St} {v : Int32} (cx : Cx p s m args meth c g R R_Model b_Model_grants 6 (some .boolean)) : ∀ (a0 : Nat) (x1 : Int32) (x3 : Int32) (x4 : Int32) (H : Heap) (locs : List Loc) (ls : Array Slot), okA g 5 0 a0 → B_Model_grants_86 R I a0 x1 x3 x4 = some v → wW g R I H → va_S (· ∈ g.L) s.heap H locs → lv_has ls 6 [(0, .ref a0), (1, .int x1), (3, .int x3), (4, .int x4)] → W p l e { frames := 1, cells := 0, slots := 0, locals := 21 } s m args below meth c H locs 0 0 (MQ below (Qi g R v I) args s 0 0 (· ∈ g.L)) (F0 m 86 ls []) := by
  have ⟨hx, hb, hml, hr, hlk, hown, hall, hT, hK⟩ := cx
  intro a0 x1 x3 x4 H locs ls o0 h hP hS hl
  unfold B_Model_grants_86 at h
  refine lv_iconst (v := 0) hx hb d_Model_grants_86 (by decide) ?_
  exact b_Model_grants_87 cx _ _ _ _ _ _ _ _ o0 h hP hS (lv_sub hl [0, 1, 2, 3] rfl)
def B_Model_grants_39 (R : Nat → Nat → Nat) (I : St) (a0 : Nat) (x1 : Int32) (x2 : Int32) (x3 : Int32) (t0 : Int32) : Option Int32 := (ob (F_Model_lastEpoch R a0 x2 I) (fun v43 => (ob (F_Model_lastEpoch R a0 x1 I) (fun v48 => (if v43 < v48 then B_Model_grants_82 R I a0 x1 x3 t0 else (ob (F_Model_lastEpoch R a0 x2 I) (fun v56 => (ob (F_Model_lastEpoch R a0 x1 I) (fun v61 => (if v56 = v61 then (chk x2 6 ((chk x1 6 ((if (I (R a0 9) x1.toNatClampNeg) ≤ (I (R a0 9) x2.toNatClampNeg) then B_Model_grants_86 R I a0 x1 x3 t0 else B_Model_grants_82 R I a0 x1 x3 t0))))) else B_Model_grants_86 R I a0 x1 x3 t0))))))))))
set_option maxHeartbeats 4000000 in
set_option maxRecDepth 100000 in
theorem b_Model_grants_39 {p : Program} {l : Launch} {e : Env} {s : State} {m : MethodId} {args : Array Value} {below : List Frame} {meth : Method} {c : Code} {g : Sg} {R : Nat → Nat → Nat} {I : St} {v : Int32} (cx : Cx p s m args meth c g R R_Model b_Model_grants 6 (some .boolean)) : ∀ (a0 : Nat) (x1 : Int32) (x2 : Int32) (x3 : Int32) (t0 : Int32) (H : Heap) (locs : List Loc) (ls : Array Slot), okA g 5 0 a0 → B_Model_grants_39 R I a0 x1 x2 x3 t0 = some v → wW g R I H → va_S (· ∈ g.L) s.heap H locs → lv_has ls 6 [(0, .ref a0), (1, .int x1), (2, .int x2), (3, .int x3)] → W p l e { frames := 1, cells := 0, slots := 0, locals := 21 } s m args below meth c H locs 0 0 (MQ below (Qi g R v I) args s 0 0 (· ∈ g.L)) (F0 m 39 ls [.int t0]) := by
  have ⟨hx, hb, hml, hr, hlk, hown, hall, hT, hK⟩ := cx
  intro a0 x1 x2 x3 t0 H locs ls o0 h hP hS hl
  unfold B_Model_grants_39 at h
  refine lv_istore (lv' := [(4, .int t0), (0, .ref a0), (1, .int x1), (2, .int x2), (3, .int x3)]) hx hb d_Model_grants_39 hl (Nat.le_of_ble_eq_true rfl) rfl (fun ls hl => ?_)
  refine lv_aload_n hx hb d_Model_grants_41 rfl (lv_at hl 1 rfl) ?_
  refine lv_iload_n hx hb d_Model_grants_42 rfl (lv_at hl 3 rfl) ?_
  obtain ⟨v43, e43, h⟩ := ob_el h
  refine gg_Vi (As := [.int x2]) (rest := []) (ci := 5) (C := R_Model) (T := F_Model) (N := 23) ⟨hx, hb, hml, hown, hall⟩ (c_Model_lastEpoch l hT o0 e43) (cwV 1 hall (gV m_380 m_381 m_382 m_338 m_378) rfl rfl rfl (by decide +kernel) ⟨Nat.le_of_ble_eq_true rfl, Nat.le_of_ble_eq_true rfl⟩) hK hP hS o0.1 (wE_5 o0.2) rfl rfl hl.1 rfl (Nat.le_of_ble_eq_true rfl) d_Model_grants_43 (fun H locs hP hS => ?_)
  refine lv_aload_n hx hb d_Model_grants_46 rfl (lv_at hl 1 rfl) ?_
  refine lv_iload_n hx hb d_Model_grants_47 rfl (lv_at hl 2 rfl) ?_
  obtain ⟨v48, e48, h⟩ := ob_el h
  refine gg_Vi (As := [.int x1]) (rest := [.int v43]) (ci := 5) (C := R_Model) (T := F_Model) (N := 23) ⟨hx, hb, hml, hown, hall⟩ (c_Model_lastEpoch l hT o0 e48) (cwV 1 hall (gV m_380 m_381 m_382 m_338 m_378) rfl rfl rfl (by decide +kernel) ⟨Nat.le_of_ble_eq_true rfl, Nat.le_of_ble_eq_true rfl⟩) hK hP hS o0.1 (wE_5 o0.2) rfl rfl hl.1 rfl (Nat.le_of_ble_eq_true rfl) d_Model_grants_48 (fun H locs hP hS => ?_)
  refine lv_icmp_lt hx hb d_Model_grants_51 rfl (fun hc => ?_) (fun hc => ?_)
  · replace h := i_pos hc h
    exact b_Model_grants_82 cx _ _ _ _ _ _ _ o0 h hP hS (lv_sub hl [1, 2, 4, 0] rfl)
  · replace h := i_neg hc h
    refine lv_aload_n hx hb d_Model_grants_54 rfl (lv_at hl 1 rfl) ?_
    refine lv_iload_n hx hb d_Model_grants_55 rfl (lv_at hl 3 rfl) ?_
    obtain ⟨v56, e56, h⟩ := ob_el h
    refine gg_Vi (As := [.int x2]) (rest := []) (ci := 5) (C := R_Model) (T := F_Model) (N := 23) ⟨hx, hb, hml, hown, hall⟩ (c_Model_lastEpoch l hT o0 e56) (cwV 1 hall (gV m_380 m_381 m_382 m_338 m_378) rfl rfl rfl (by decide +kernel) ⟨Nat.le_of_ble_eq_true rfl, Nat.le_of_ble_eq_true rfl⟩) hK hP hS o0.1 (wE_5 o0.2) rfl rfl hl.1 rfl (Nat.le_of_ble_eq_true rfl) d_Model_grants_56 (fun H locs hP hS => ?_)
    refine lv_aload_n hx hb d_Model_grants_59 rfl (lv_at hl 1 rfl) ?_
    refine lv_iload_n hx hb d_Model_grants_60 rfl (lv_at hl 2 rfl) ?_
    obtain ⟨v61, e61, h⟩ := ob_el h
    refine gg_Vi (As := [.int x1]) (rest := [.int v56]) (ci := 5) (C := R_Model) (T := F_Model) (N := 23) ⟨hx, hb, hml, hown, hall⟩ (c_Model_lastEpoch l hT o0 e61) (cwV 1 hall (gV m_380 m_381 m_382 m_338 m_378) rfl rfl rfl (by decide +kernel) ⟨Nat.le_of_ble_eq_true rfl, Nat.le_of_ble_eq_true rfl⟩) hK hP hS o0.1 (wE_5 o0.2) rfl rfl hl.1 rfl (Nat.le_of_ble_eq_true rfl) d_Model_grants_61 (fun H locs hP hS => ?_)
    refine lv_icmp_ne hx hb d_Model_grants_64 rfl (fun hc => ?_) (fun hc => ?_)
    · replace h := i_neg hc h
      exact b_Model_grants_86 cx _ _ _ _ _ _ _ o0 h hP hS (lv_sub hl [1, 2, 4, 0] rfl)
    · replace h := i_pos hc h
      refine lv_aload_n hx hb d_Model_grants_67 rfl (lv_at hl 1 rfl) ?_
      refine gg_get (C := R_Model) (T := F_Model) (N := 23) (ci := 5) hx hb hall i_Model hown hK hP o0.1 (wE_5 o0.2) rfl 9 (by decide) (hall _ m_366) (fun _ h9 => h9) rfl d_Model_grants_68 ?_
      have o_68 : okA g 6 6 (R a0 9) := ty_Model_9 hT o0
      refine lv_iload_n hx hb d_Model_grants_71 rfl (lv_at hl 3 rfl) ?_
      obtain ⟨hi72, h⟩ := chk_el h
      refine gg_iald hx hb hK hP o_68 hi72 d_Model_grants_72 ?_
      refine lv_aload_n hx hb d_Model_grants_73 rfl (lv_at hl 1 rfl) ?_
      refine gg_get (C := R_Model) (T := F_Model) (N := 23) (ci := 5) hx hb hall i_Model hown hK hP o0.1 (wE_5 o0.2) rfl 9 (by decide) (hall _ m_366) (fun _ h9 => h9) rfl d_Model_grants_74 ?_
      have o_74 : okA g 6 6 (R a0 9) := ty_Model_9 hT o0
      refine lv_iload_n hx hb d_Model_grants_77 rfl (lv_at hl 2 rfl) ?_
      obtain ⟨hi78, h⟩ := chk_el h
      refine gg_iald hx hb hK hP o_74 hi78 d_Model_grants_78 ?_
      refine lv_icmp_ge hx hb d_Model_grants_79 rfl (fun hc => ?_) (fun hc => ?_)
      · replace h := i_pos hc h
        exact b_Model_grants_86 cx _ _ _ _ _ _ _ o0 h hP hS (lv_sub hl [1, 2, 4, 0] rfl)
      · replace h := i_neg hc h
        exact b_Model_grants_82 cx _ _ _ _ _ _ _ o0 h hP hS (lv_sub hl [1, 2, 4, 0] rfl)
def B_Model_grants_34 (R : Nat → Nat → Nat) (I : St) (a0 : Nat) (x1 : Int32) (x2 : Int32) (x3 : Int32) : Option Int32 := B_Model_grants_39 R I a0 x1 x2 x3 (1 : Int32)
set_option maxHeartbeats 4000000 in
set_option maxRecDepth 100000 in
theorem b_Model_grants_34 {p : Program} {l : Launch} {e : Env} {s : State} {m : MethodId} {args : Array Value} {below : List Frame} {meth : Method} {c : Code} {g : Sg} {R : Nat → Nat → Nat} {I : St} {v : Int32} (cx : Cx p s m args meth c g R R_Model b_Model_grants 6 (some .boolean)) : ∀ (a0 : Nat) (x1 : Int32) (x2 : Int32) (x3 : Int32) (H : Heap) (locs : List Loc) (ls : Array Slot), okA g 5 0 a0 → B_Model_grants_34 R I a0 x1 x2 x3 = some v → wW g R I H → va_S (· ∈ g.L) s.heap H locs → lv_has ls 6 [(0, .ref a0), (1, .int x1), (2, .int x2), (3, .int x3)] → W p l e { frames := 1, cells := 0, slots := 0, locals := 21 } s m args below meth c H locs 0 0 (MQ below (Qi g R v I) args s 0 0 (· ∈ g.L)) (F0 m 34 ls []) := by
  have ⟨hx, hb, hml, hr, hlk, hown, hall, hT, hK⟩ := cx
  intro a0 x1 x2 x3 H locs ls o0 h hP hS hl
  unfold B_Model_grants_34 at h
  refine lv_iconst (v := 1) hx hb d_Model_grants_34 (by decide) ?_
  refine lv_goto hx hb d_Model_grants_35 rfl ?_
  exact b_Model_grants_39 cx _ _ _ _ _ _ _ _ o0 h hP hS (lv_sub hl [0, 1, 2, 3] rfl)
def F_Model_grants (R : Nat → Nat → Nat) (a0 : Nat) (x1 : Int32) (x2 : Int32) (x3 : Int32) (I : St) : Option Int32 := (chk x1 6 ((if (I (R a0 6) x1.toNatClampNeg) = (-1 : Int32) then B_Model_grants_34 R I a0 x1 x2 x3 else (ob (F_Model_earliest R a0 x1 I) (fun v12 => (chk x1 6 ((if (I (R a0 5) x1.toNatClampNeg) < v12 then B_Model_grants_34 R I a0 x1 x2 x3 else (chk x1 6 ((if (I (R a0 6) x1.toNatClampNeg) = x2 then B_Model_grants_34 R I a0 x1 x2 x3 else B_Model_grants_39 R I a0 x1 x2 x3 (0 : Int32))))))))))))
set_option maxHeartbeats 4000000 in
set_option maxRecDepth 100000 in
theorem c_Model_grants (l : Launch) {g : Sg} {R : Nat → Nat → Nat} (hT : Ty g R) {a0 : Nat} (o0 : okA g 5 0 a0) {x1 : Int32} {x2 : Int32} {x3 : Int32} {I : St} {v : Int32} (h : F_Model_grants R a0 x1 x2 x3 I = some v) : Cti l g R y_Model_grants w_Model_grants 1 21 [.ref a0, .int x1, .int x2, .int x3] I v I := by
  unfold Cti
  refine Met.ofW (cc := b_Model_grants) (maxL := 6) (ret := (some .boolean)) (by decide) rfl ?_
  intro p e s m args below meth c s₁ B hml hv
  obtain ⟨rfl, hP, hK⟩ := hv
  have hts := atoms_spec (ws := w_Model_grants) B.pre
  have hall : ∀ w ∈ w_all, w.before _ s = true := fun w hw => hts w (List.mem_cons_of_mem _ hw)
  have hown : s.vm.findClass R_Model = some m.cls := findClass_of_methodNamed B.named
  have hx := B.exec
  have hb := B.bytes
  have hr := B.returns
  have hlk := B.notSynchronized
  have cx : Cx p s m _ meth c g R R_Model b_Model_grants 6 (some .boolean) := ⟨hx, hb, hml, hr, hlk, hown, hall, hT, hK⟩
  have hl := lv_entry ([.ref a0, .int x1, .int x2, .int x3]) (n := 6) (Nat.le_of_ble_eq_true rfl)
  rw [lg_entry_eq]
  generalize (lg_sl ([.ref a0, .int x1, .int x2, .int x3]) ++ List.replicate (6 - (lg_sl ([.ref a0, .int x1, .int x2, .int x3])).length) Slot.unset).toArray = ls at hl ⊢
  have hl : lv_has ls 6 [(0, .ref a0), (1, .int x1), (2, .int x2), (3, .int x3)] := hl
  have hS : va_S (· ∈ g.L) s.heap s.heap [] := va_S.rf
  unfold F_Model_grants at h
  refine lv_aload_n hx hb d_Model_grants_0 rfl (lv_at hl 0 rfl) ?_
  refine gg_get (C := R_Model) (T := F_Model) (N := 23) (ci := 5) hx hb hall i_Model hown hK hP o0.1 (wE_5 o0.2) rfl 6 (by decide) (hall _ m_383) (fun _ h9 => h9) rfl d_Model_grants_1 ?_
  have o_1 : okA g 6 6 (R a0 6) := ty_Model_6 hT o0
  refine lv_iload_n hx hb d_Model_grants_4 rfl (lv_at hl 1 rfl) ?_
  obtain ⟨hi5, h⟩ := chk_el h
  refine gg_iald hx hb hK hP o_1 hi5 d_Model_grants_5 ?_
  refine lv_iconst (v := (-1)) hx hb d_Model_grants_6 (by decide) ?_
  refine lv_icmp_eq hx hb d_Model_grants_7 rfl (fun hc => ?_) (fun hc => ?_)
  · replace h := i_pos hc h
    exact b_Model_grants_34 cx _ _ _ _ _ _ _ o0 h hP hS (lv_sub hl [0, 1, 2, 3] rfl)
  · replace h := i_neg hc h
    refine lv_aload_n hx hb d_Model_grants_10 rfl (lv_at hl 0 rfl) ?_
    refine lv_iload_n hx hb d_Model_grants_11 rfl (lv_at hl 1 rfl) ?_
    obtain ⟨v12, e12, h⟩ := ob_el h
    refine gg_Vi (As := [.int x1]) (rest := []) (ci := 5) (C := R_Model) (T := F_Model) (N := 23) ⟨hx, hb, hml, hown, hall⟩ (c_Model_earliest l hT o0 e12) (cwV 1 hall (gV m_384 m_385 m_386 m_338 m_333) rfl rfl rfl (by decide +kernel) ⟨Nat.le_of_ble_eq_true rfl, Nat.le_of_ble_eq_true rfl⟩) hK hP hS o0.1 (wE_5 o0.2) rfl rfl hl.1 rfl (Nat.le_of_ble_eq_true rfl) d_Model_grants_12 (fun H locs hP hS => ?_)
    refine lv_aload_n hx hb d_Model_grants_15 rfl (lv_at hl 0 rfl) ?_
    refine gg_get (C := R_Model) (T := F_Model) (N := 23) (ci := 5) hx hb hall i_Model hown hK hP o0.1 (wE_5 o0.2) rfl 5 (by decide) (hall _ m_387) (fun _ h9 => h9) rfl d_Model_grants_16 ?_
    have o_16 : okA g 6 6 (R a0 5) := ty_Model_5 hT o0
    refine lv_iload_n hx hb d_Model_grants_19 rfl (lv_at hl 1 rfl) ?_
    obtain ⟨hi20, h⟩ := chk_el h
    refine gg_iald hx hb hK hP o_16 hi20 d_Model_grants_20 ?_
    refine lv_icmp_gt hx hb d_Model_grants_21 rfl (fun hc => ?_) (fun hc => ?_)
    · replace h := i_pos hc h
      exact b_Model_grants_34 cx _ _ _ _ _ _ _ o0 h hP hS (lv_sub hl [0, 1, 2, 3] rfl)
    · replace h := i_neg hc h
      refine lv_aload_n hx hb d_Model_grants_24 rfl (lv_at hl 0 rfl) ?_
      refine gg_get (C := R_Model) (T := F_Model) (N := 23) (ci := 5) hx hb hall i_Model hown hK hP o0.1 (wE_5 o0.2) rfl 6 (by decide) (hall _ m_383) (fun _ h9 => h9) rfl d_Model_grants_25 ?_
      have o_25 : okA g 6 6 (R a0 6) := ty_Model_6 hT o0
      refine lv_iload_n hx hb d_Model_grants_28 rfl (lv_at hl 1 rfl) ?_
      obtain ⟨hi29, h⟩ := chk_el h
      refine gg_iald hx hb hK hP o_25 hi29 d_Model_grants_29 ?_
      refine lv_iload_n hx hb d_Model_grants_30 rfl (lv_at hl 2 rfl) ?_
      refine lv_icmp_ne hx hb d_Model_grants_31 rfl (fun hc => ?_) (fun hc => ?_)
      · replace h := i_neg hc h
        refine lv_iconst (v := 0) hx hb d_Model_grants_38 (by decide) ?_
        exact b_Model_grants_39 cx _ _ _ _ _ _ _ _ o0 h hP hS (lv_sub hl [0, 1, 2, 3] rfl)
      · replace h := i_pos hc h
        exact b_Model_grants_34 cx _ _ _ _ _ _ _ o0 h hP hS (lv_sub hl [0, 1, 2, 3] rfl)
abbrev b_Model_promise : ByteArray := prog_7_method_22_code
def y_Model_promise : MethodName := ⟨"StampedStoreModel", "promise", "(I)V"⟩
def w_Model_promise : List Cond := .code y_Model_promise b_Model_promise 3 none :: w_all
theorem d_Model_promise_0 : decode b_Model_promise 0 = .ok (.aload_n 0, 1) := by decide +kernel
theorem d_Model_promise_1 : decode b_Model_promise 1 = .ok (.iload_n 1, 1) := by decide +kernel
theorem d_Model_promise_2 : decode b_Model_promise 2 = .ok (.invokevirtual 82, 3) := by decide +kernel
theorem d_Model_promise_5 : decode b_Model_promise 5 = .ok (.bipush 40, 2) := by decide +kernel
theorem d_Model_promise_7 : decode b_Model_promise 7 = .ok (.iadd, 1) := by decide +kernel
theorem d_Model_promise_8 : decode b_Model_promise 8 = .ok (.istore_n 2, 1) := by decide +kernel
theorem d_Model_promise_9 : decode b_Model_promise 9 = .ok (.aload_n 0, 1) := by decide +kernel
theorem d_Model_promise_10 : decode b_Model_promise 10 = .ok (.getfield 20, 3) := by decide +kernel
theorem d_Model_promise_13 : decode b_Model_promise 13 = .ok (.iload_n 1, 1) := by decide +kernel
theorem d_Model_promise_14 : decode b_Model_promise 14 = .ok (.iload_n 2, 1) := by decide +kernel
theorem d_Model_promise_15 : decode b_Model_promise 15 = .ok (.aload_n 0, 1) := by decide +kernel
theorem d_Model_promise_16 : decode b_Model_promise 16 = .ok (.getfield 20, 3) := by decide +kernel
theorem d_Model_promise_19 : decode b_Model_promise 19 = .ok (.iload_n 1, 1) := by decide +kernel
theorem d_Model_promise_20 : decode b_Model_promise 20 = .ok (.iaload, 1) := by decide +kernel
theorem d_Model_promise_21 : decode b_Model_promise 21 = .ok (.if_icmp .le 7, 3) := by decide +kernel
theorem d_Model_promise_24 : decode b_Model_promise 24 = .ok (.iload_n 2, 1) := by decide +kernel
theorem d_Model_promise_25 : decode b_Model_promise 25 = .ok (.goto 9, 3) := by decide +kernel
theorem d_Model_promise_28 : decode b_Model_promise 28 = .ok (.aload_n 0, 1) := by decide +kernel
theorem d_Model_promise_29 : decode b_Model_promise 29 = .ok (.getfield 20, 3) := by decide +kernel
theorem d_Model_promise_32 : decode b_Model_promise 32 = .ok (.iload_n 1, 1) := by decide +kernel
theorem d_Model_promise_33 : decode b_Model_promise 33 = .ok (.iaload, 1) := by decide +kernel
theorem d_Model_promise_34 : decode b_Model_promise 34 = .ok (.iastore, 1) := by decide +kernel
theorem d_Model_promise_35 : decode b_Model_promise 35 = .ok (.return_, 1) := by decide +kernel
def B_Model_promise_34 (R : Nat → Nat → Nat) (u0 : Nat) (t1 : Int32) (t2 : Int32) (I : St) : Option St := (chk t1 6 (ap (up2 I u0 t1.toNatClampNeg t2) (fun I34 => some I34)))
set_option maxHeartbeats 4000000 in
set_option maxRecDepth 100000 in
theorem b_Model_promise_34 {p : Program} {l : Launch} {e : Env} {s : State} {m : MethodId} {args : Array Value} {below : List Frame} {meth : Method} {c : Code} {g : Sg} {R : Nat → Nat → Nat} {J : St} (cx : Cx p s m args meth c g R R_Model b_Model_promise 3 none) : ∀ (u0 : Nat) (t1 : Int32) (t2 : Int32) (I : St) (H : Heap) (locs : List Loc) (ls : Array Slot), okA g 6 6 u0 → B_Model_promise_34 R u0 t1 t2 I = some J → wW g R I H → va_S (· ∈ g.L) s.heap H locs → lv_has ls 3 [] → W p l e { frames := 1, cells := 0, slots := 0, locals := 21 } s m args below meth c H locs 0 0 (MQ below (Qu g R J) args s 0 0 (· ∈ g.L)) (F0 m 34 ls [.int t2, .int t1, .ref u0]) := by
  have ⟨hx, hb, hml, hr, hlk, hown, hall, hT, hK⟩ := cx
  intro u0 t1 t2 I H locs ls q0 h hP hS hl
  unfold B_Model_promise_34 at h
  obtain ⟨hi34, h⟩ := chk_el h
  refine gg_iast hx hb hT.1 hK hP hS q0 hi34 d_Model_promise_34 (fun I34 H locs e34 hP hS => ?_)
  replace h := ap_el e34 h
  obtain rfl := Option.some.inj h
  exact gg_vret hx hb hr hlk hK hP hS d_Model_promise_35
def F_Model_promise (R : Nat → Nat → Nat) (a0 : Nat) (x1 : Int32) (I : St) : Option St := (ob (F_Model_latest R a0 x1 I) (fun v2 => (chk x1 6 ((if (v2 + (40 : Int32)) ≤ (I (R a0 5) x1.toNatClampNeg) then (chk x1 6 (B_Model_promise_34 R (R a0 5) x1 (I (R a0 5) x1.toNatClampNeg) I)) else B_Model_promise_34 R (R a0 5) x1 (v2 + (40 : Int32)) I)))))
set_option maxHeartbeats 4000000 in
set_option maxRecDepth 100000 in
theorem c_Model_promise (l : Launch) {g : Sg} {R : Nat → Nat → Nat} (hT : Ty g R) {a0 : Nat} (o0 : okA g 5 0 a0) {x1 : Int32} {I : St} {J : St} (h : F_Model_promise R a0 x1 I = some J) : Ctv l g R y_Model_promise w_Model_promise 1 21 [.ref a0, .int x1] I J := by
  unfold Ctv
  refine Met.ofW (cc := b_Model_promise) (maxL := 3) (ret := none) (by decide) rfl ?_
  intro p e s m args below meth c s₁ B hml hv
  obtain ⟨rfl, hP, hK⟩ := hv
  have hts := atoms_spec (ws := w_Model_promise) B.pre
  have hall : ∀ w ∈ w_all, w.before _ s = true := fun w hw => hts w (List.mem_cons_of_mem _ hw)
  have hown : s.vm.findClass R_Model = some m.cls := findClass_of_methodNamed B.named
  have hx := B.exec
  have hb := B.bytes
  have hr := B.returns
  have hlk := B.notSynchronized
  have cx : Cx p s m _ meth c g R R_Model b_Model_promise 3 none := ⟨hx, hb, hml, hr, hlk, hown, hall, hT, hK⟩
  have hl := lv_entry ([.ref a0, .int x1]) (n := 3) (Nat.le_of_ble_eq_true rfl)
  rw [lg_entry_eq]
  generalize (lg_sl ([.ref a0, .int x1]) ++ List.replicate (3 - (lg_sl ([.ref a0, .int x1])).length) Slot.unset).toArray = ls at hl ⊢
  have hl : lv_has ls 3 [(0, .ref a0), (1, .int x1)] := hl
  have hS : va_S (· ∈ g.L) s.heap s.heap [] := va_S.rf
  unfold F_Model_promise at h
  refine lv_aload_n hx hb d_Model_promise_0 rfl (lv_at hl 0 rfl) ?_
  refine lv_iload_n hx hb d_Model_promise_1 rfl (lv_at hl 1 rfl) ?_
  obtain ⟨v2, e2, h⟩ := ob_el h
  refine gg_Vi (As := [.int x1]) (rest := []) (ci := 5) (C := R_Model) (T := F_Model) (N := 23) ⟨hx, hb, hml, hown, hall⟩ (c_Model_latest l hT o0 e2) (cwV 1 hall (gV m_344 m_345 m_346 m_338 m_334) rfl rfl rfl (by decide +kernel) ⟨Nat.le_of_ble_eq_true rfl, Nat.le_of_ble_eq_true rfl⟩) hK hP hS o0.1 (wE_5 o0.2) rfl rfl hl.1 rfl (Nat.le_of_ble_eq_true rfl) d_Model_promise_2 (fun H locs hP hS => ?_)
  refine lv_bipush (v := 40) hx hb d_Model_promise_5 (by decide) ?_
  refine lv_iadd hx hb d_Model_promise_7 ?_
  refine lv_istore_n (lv' := [(2, .int (v2 + (40 : Int32))), (0, .ref a0), (1, .int x1)]) hx hb d_Model_promise_8 rfl hl (Nat.le_of_ble_eq_true rfl) rfl (fun ls hl => ?_)
  refine lv_aload_n hx hb d_Model_promise_9 rfl (lv_at hl 1 rfl) ?_
  refine gg_get (C := R_Model) (T := F_Model) (N := 23) (ci := 5) hx hb hall i_Model hown hK hP o0.1 (wE_5 o0.2) rfl 5 (by decide) (hall _ m_387) (fun _ h9 => h9) rfl d_Model_promise_10 ?_
  have o_10 : okA g 6 6 (R a0 5) := ty_Model_5 hT o0
  refine lv_iload_n hx hb d_Model_promise_13 rfl (lv_at hl 2 rfl) ?_
  refine lv_iload_n hx hb d_Model_promise_14 rfl (lv_at hl 0 rfl) ?_
  refine lv_aload_n hx hb d_Model_promise_15 rfl (lv_at hl 1 rfl) ?_
  refine gg_get (C := R_Model) (T := F_Model) (N := 23) (ci := 5) hx hb hall i_Model hown hK hP o0.1 (wE_5 o0.2) rfl 5 (by decide) (hall _ m_387) (fun _ h9 => h9) rfl d_Model_promise_16 ?_
  have o_16 : okA g 6 6 (R a0 5) := ty_Model_5 hT o0
  refine lv_iload_n hx hb d_Model_promise_19 rfl (lv_at hl 2 rfl) ?_
  obtain ⟨hi20, h⟩ := chk_el h
  refine gg_iald hx hb hK hP o_16 hi20 d_Model_promise_20 ?_
  refine lv_icmp_le hx hb d_Model_promise_21 rfl (fun hc => ?_) (fun hc => ?_)
  · replace h := i_pos hc h
    refine lv_aload_n hx hb d_Model_promise_28 rfl (lv_at hl 1 rfl) ?_
    refine gg_get (C := R_Model) (T := F_Model) (N := 23) (ci := 5) hx hb hall i_Model hown hK hP o0.1 (wE_5 o0.2) rfl 5 (by decide) (hall _ m_387) (fun _ h9 => h9) rfl d_Model_promise_29 ?_
    have o_29 : okA g 6 6 (R a0 5) := ty_Model_5 hT o0
    refine lv_iload_n hx hb d_Model_promise_32 rfl (lv_at hl 2 rfl) ?_
    obtain ⟨hi33, h⟩ := chk_el h
    refine gg_iald hx hb hK hP o_29 hi33 d_Model_promise_33 ?_
    exact b_Model_promise_34 cx _ _ _ _ _ _ _ o_10 h hP hS (lv_sub hl [] rfl)
  · replace h := i_neg hc h
    refine lv_iload_n hx hb d_Model_promise_24 rfl (lv_at hl 0 rfl) ?_
    refine lv_goto hx hb d_Model_promise_25 rfl ?_
    exact b_Model_promise_34 cx _ _ _ _ _ _ _ o_10 h hP hS (lv_sub hl [] rfl)
end
