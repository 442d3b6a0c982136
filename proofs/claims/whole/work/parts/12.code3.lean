section
abbrev b_Node_nextStamp : ByteArray := prog_4_method_9_code
def y_Node_nextStamp : MethodName := ⟨"StampedStore$Node", "nextStamp", "()I"⟩
def w_Node_nextStamp : List Cond := .code y_Node_nextStamp b_Node_nextStamp 1 (some .int) :: w_all
theorem d_Node_nextStamp_0 : decode b_Node_nextStamp 0 = .ok (.aload_n 0, 1) := by decide +kernel
theorem d_Node_nextStamp_1 : decode b_Node_nextStamp 1 = .ok (.invokevirtual 47, 3) := by decide +kernel
theorem d_Node_nextStamp_4 : decode b_Node_nextStamp 4 = .ok (.aload_n 0, 1) := by decide +kernel
theorem d_Node_nextStamp_5 : decode b_Node_nextStamp 5 = .ok (.getfield 12, 3) := by decide +kernel
theorem d_Node_nextStamp_8 : decode b_Node_nextStamp 8 = .ok (.invokevirtual 76, 3) := by decide +kernel
theorem d_Node_nextStamp_11 : decode b_Node_nextStamp 11 = .ok (.iconst 1, 1) := by decide +kernel
theorem d_Node_nextStamp_12 : decode b_Node_nextStamp 12 = .ok (.iadd, 1) := by decide +kernel
theorem d_Node_nextStamp_13 : decode b_Node_nextStamp 13 = .ok (.invokestatic 73, 3) := by decide +kernel
theorem d_Node_nextStamp_16 : decode b_Node_nextStamp 16 = .ok (.ireturn, 1) := by decide +kernel
def F_Node_nextStamp (R : Nat → Nat → Nat) (a0 : Nat) (I : St) : Option Int32 := (ob (F_Node_latest R a0 I) (fun v1 => (ob (F_Log_greatestStamp R (R a0 2) I) (fun v8 => some (imax v1 (v8 + (1 : Int32)))))))
set_option maxHeartbeats 4000000 in
set_option maxRecDepth 100000 in
theorem c_Node_nextStamp (l : Launch) {g : Sg} {R : Nat → Nat → Nat} (hT : Ty g R) {a0 : Nat} (o0 : okA g 2 0 a0) {I : St} {v : Int32} (h : F_Node_nextStamp R a0 I = some v) : Cti l g R y_Node_nextStamp w_Node_nextStamp 2 44 [.ref a0] I v I := by
  unfold Cti
  refine Met.ofW (cc := b_Node_nextStamp) (maxL := 1) (ret := (some .int)) (by decide) rfl ?_
  intro p e s m args below meth c s₁ B hml hv
  obtain ⟨rfl, hP, hK⟩ := hv
  have hts := atoms_spec (ws := w_Node_nextStamp) B.pre
  have hall : ∀ w ∈ w_all, w.before _ s = true := fun w hw => hts w (List.mem_cons_of_mem _ hw)
  have hown : s.vm.findClass R_Node = some m.cls := findClass_of_methodNamed B.named
  have hx := B.exec
  have hb := B.bytes
  have hr := B.returns
  have hlk := B.notSynchronized
  have cx : Cx p s m _ meth c g R R_Node b_Node_nextStamp 1 (some .int) := ⟨hx, hb, hml, hr, hlk, hown, hall, hT, hK⟩
  have hl := lv_entry ([.ref a0]) (n := 1) (Nat.le_of_ble_eq_true rfl)
  rw [lg_entry_eq]
  generalize (lg_sl ([.ref a0]) ++ List.replicate (1 - (lg_sl ([.ref a0])).length) Slot.unset).toArray = ls at hl ⊢
  have hl : lv_has ls 1 [(0, .ref a0)] := hl
  have hS : va_S (· ∈ g.L) s.heap s.heap [] := va_S.rf
  unfold F_Node_nextStamp at h
  refine lv_aload_n hx hb d_Node_nextStamp_0 rfl (lv_at hl 0 rfl) ?_
  obtain ⟨v1, e1, h⟩ := ob_el h
  refine gg_Vi (As := []) (rest := []) (ci := 2) (C := R_Node) (T := F_Node) (N := 10) ⟨hx, hb, hml, hown, hall⟩ (c_Node_latest l hT o0 e1) (cwV 0 hall (gV m_54 m_55 m_56 m_48 m_53) rfl rfl rfl (by decide +kernel) ⟨Nat.le_of_ble_eq_true rfl, Nat.le_of_ble_eq_true rfl⟩) hK hP hS o0.1 (wE_2 o0.2) rfl rfl hl.1 rfl (Nat.le_of_ble_eq_true rfl) d_Node_nextStamp_1 (fun H locs hP hS => ?_)
  refine lv_aload_n hx hb d_Node_nextStamp_4 rfl (lv_at hl 0 rfl) ?_
  refine gg_get (C := R_Node) (T := F_Node) (N := 10) (ci := 2) hx hb hall i_Node hown hK hP o0.1 (wE_2 o0.2) rfl 2 (by decide) (hall _ m_40) (fun _ h9 => h9) rfl d_Node_nextStamp_5 ?_
  have o_5 : okA g 1 0 (R a0 2) := ty_Node_2 hT o0
  obtain ⟨v8, e8, h⟩ := ob_el h
  refine gg_Vi (As := []) (rest := [.int v1]) (ci := 1) (C := R_Log) (T := F_Log) (N := 7) ⟨hx, hb, hml, hown, hall⟩ (c_Log_greatestStamp l hT o_5 e8) (cwV 0 hall (gV m_77 m_78 m_79 m_38 m_76) rfl rfl rfl (by decide +kernel) ⟨Nat.le_of_ble_eq_true rfl, Nat.le_of_ble_eq_true rfl⟩) hK hP hS o_5.1 (wE_1 o_5.2) rfl rfl hl.1 rfl (Nat.le_of_ble_eq_true rfl) d_Node_nextStamp_8 (fun H locs hP hS => ?_)
  refine lv_iconst (v := 1) hx hb d_Node_nextStamp_11 (by decide) ?_
  refine lv_iadd hx hb d_Node_nextStamp_12 ?_
  refine gg_max hx hb hml hl.1 hown (hall _ m_57) (hall _ m_58) (hall _ m_18) (hall _ m_59) (Nat.le_of_ble_eq_true rfl) (Nat.le_of_ble_eq_true rfl) d_Node_nextStamp_13 ?_
  obtain rfl := Option.some.inj h
  exact gg_iret hx hb hr hlk hK hP hS d_Node_nextStamp_16
abbrev b_Log_isFull : ByteArray := prog_3_method_2_code
def y_Log_isFull : MethodName := ⟨"StampedStore$Log", "isFull", "()Z"⟩
def w_Log_isFull : List Cond := .code y_Log_isFull b_Log_isFull 1 (some .boolean) :: w_all
theorem d_Log_isFull_0 : decode b_Log_isFull 0 = .ok (.aload_n 0, 1) := by decide +kernel
theorem d_Log_isFull_1 : decode b_Log_isFull 1 = .ok (.getfield 27, 3) := by decide +kernel
theorem d_Log_isFull_4 : decode b_Log_isFull 4 = .ok (.bipush 60, 2) := by decide +kernel
theorem d_Log_isFull_6 : decode b_Log_isFull 6 = .ok (.if_icmp .lt 7, 3) := by decide +kernel
theorem d_Log_isFull_9 : decode b_Log_isFull 9 = .ok (.iconst 1, 1) := by decide +kernel
theorem d_Log_isFull_10 : decode b_Log_isFull 10 = .ok (.goto 4, 3) := by decide +kernel
theorem d_Log_isFull_13 : decode b_Log_isFull 13 = .ok (.iconst 0, 1) := by decide +kernel
theorem d_Log_isFull_14 : decode b_Log_isFull 14 = .ok (.ireturn, 1) := by decide +kernel
def F_Log_isFull (R : Nat → Nat → Nat) (a0 : Nat) (I : St) : Option Int32 := (if (I a0 5) < (60 : Int32) then some (0 : Int32) else some (1 : Int32))
set_option maxHeartbeats 4000000 in
set_option maxRecDepth 100000 in
theorem c_Log_isFull (l : Launch) {g : Sg} {R : Nat → Nat → Nat} (hT : Ty g R) {a0 : Nat} (o0 : okA g 1 0 a0) {I : St} {v : Int32} (h : F_Log_isFull R a0 I = some v) : Cti l g R y_Log_isFull w_Log_isFull 0 0 [.ref a0] I v I := by
  unfold Cti
  refine Met.ofW (cc := b_Log_isFull) (maxL := 1) (ret := (some .boolean)) (by decide) rfl ?_
  intro p e s m args below meth c s₁ B hml hv
  obtain ⟨rfl, hP, hK⟩ := hv
  have hts := atoms_spec (ws := w_Log_isFull) B.pre
  have hall : ∀ w ∈ w_all, w.before _ s = true := fun w hw => hts w (List.mem_cons_of_mem _ hw)
  have hown : s.vm.findClass R_Log = some m.cls := findClass_of_methodNamed B.named
  have hx := B.exec
  have hb := B.bytes
  have hr := B.returns
  have hlk := B.notSynchronized
  have cx : Cx p s m _ meth c g R R_Log b_Log_isFull 1 (some .boolean) := ⟨hx, hb, hml, hr, hlk, hown, hall, hT, hK⟩
  have hl := lv_entry ([.ref a0]) (n := 1) (Nat.le_of_ble_eq_true rfl)
  rw [lg_entry_eq]
  generalize (lg_sl ([.ref a0]) ++ List.replicate (1 - (lg_sl ([.ref a0])).length) Slot.unset).toArray = ls at hl ⊢
  have hl : lv_has ls 1 [(0, .ref a0)] := hl
  have hS : va_S (· ∈ g.L) s.heap s.heap [] := va_S.rf
  unfold F_Log_isFull at h
  refine lv_aload_n hx hb d_Log_isFull_0 rfl (lv_at hl 0 rfl) ?_
  refine gg_get (C := R_Log) (T := F_Log) (N := 7) (ci := 1) hx hb hall i_Log hown hK hP o0.1 (wE_1 o0.2) rfl 5 (by decide) (hall _ m_32) (fun _ h9 => h9) rfl d_Log_isFull_1 ?_
  refine lv_bipush (v := 60) hx hb d_Log_isFull_4 (by decide) ?_
  refine lv_icmp_lt hx hb d_Log_isFull_6 rfl (fun hc => ?_) (fun hc => ?_)
  · replace h := i_pos hc h
    refine lv_iconst (v := 0) hx hb d_Log_isFull_13 (by decide) ?_
    obtain rfl := Option.some.inj h
    exact gg_zret hx hb hr hlk rfl hK hP hS d_Log_isFull_14
  · replace h := i_neg hc h
    refine lv_iconst (v := 1) hx hb d_Log_isFull_9 (by decide) ?_
    refine lv_goto hx hb d_Log_isFull_10 rfl ?_
    obtain rfl := Option.some.inj h
    exact gg_zret hx hb hr hlk rfl hK hP hS d_Log_isFull_14
abbrev b_Node_refusalOf : ByteArray := prog_4_method_10_code
def y_Node_refusalOf : MethodName := ⟨"StampedStore$Node", "refusalOf", "(I)I"⟩
def w_Node_refusalOf : List Cond := .code y_Node_refusalOf b_Node_refusalOf 2 (some .int) :: w_all
theorem d_Node_refusalOf_0 : decode b_Node_refusalOf 0 = .ok (.aload_n 0, 1) := by decide +kernel
theorem d_Node_refusalOf_1 : decode b_Node_refusalOf 1 = .ok (.getfield 12, 3) := by decide +kernel
theorem d_Node_refusalOf_4 : decode b_Node_refusalOf 4 = .ok (.invokevirtual 79, 3) := by decide +kernel
theorem d_Node_refusalOf_7 : decode b_Node_refusalOf 7 = .ok (.ifCond .eq 6, 3) := by decide +kernel
theorem d_Node_refusalOf_10 : decode b_Node_refusalOf 10 = .ok (.bipush (-6), 2) := by decide +kernel
theorem d_Node_refusalOf_12 : decode b_Node_refusalOf 12 = .ok (.ireturn, 1) := by decide +kernel
theorem d_Node_refusalOf_13 : decode b_Node_refusalOf 13 = .ok (.iload_n 1, 1) := by decide +kernel
theorem d_Node_refusalOf_14 : decode b_Node_refusalOf 14 = .ok (.aload_n 0, 1) := by decide +kernel
theorem d_Node_refusalOf_15 : decode b_Node_refusalOf 15 = .ok (.getfield 51, 3) := by decide +kernel
theorem d_Node_refusalOf_18 : decode b_Node_refusalOf 18 = .ok (.if_icmp .ge 7, 3) := by decide +kernel
theorem d_Node_refusalOf_21 : decode b_Node_refusalOf 21 = .ok (.iconst 0, 1) := by decide +kernel
theorem d_Node_refusalOf_22 : decode b_Node_refusalOf 22 = .ok (.goto 5, 3) := by decide +kernel
theorem d_Node_refusalOf_25 : decode b_Node_refusalOf 25 = .ok (.bipush (-7), 2) := by decide +kernel
theorem d_Node_refusalOf_27 : decode b_Node_refusalOf 27 = .ok (.ireturn, 1) := by decide +kernel
def F_Node_refusalOf (R : Nat → Nat → Nat) (a0 : Nat) (x1 : Int32) (I : St) : Option Int32 := (ob (F_Log_isFull R (R a0 2) I) (fun v4 => (if v4 = 0 then (if (I a0 7) ≤ x1 then some (-7 : Int32) else some (0 : Int32)) else some (-6 : Int32))))
set_option maxHeartbeats 4000000 in
set_option maxRecDepth 100000 in
theorem c_Node_refusalOf (l : Launch) {g : Sg} {R : Nat → Nat → Nat} (hT : Ty g R) {a0 : Nat} (o0 : okA g 2 0 a0) {x1 : Int32} {I : St} {v : Int32} (h : F_Node_refusalOf R a0 x1 I = some v) : Cti l g R y_Node_refusalOf w_Node_refusalOf 1 20 [.ref a0, .int x1] I v I := by
  unfold Cti
  refine Met.ofW (cc := b_Node_refusalOf) (maxL := 2) (ret := (some .int)) (by decide) rfl ?_
  intro p e s m args below meth c s₁ B hml hv
  obtain ⟨rfl, hP, hK⟩ := hv
  have hts := atoms_spec (ws := w_Node_refusalOf) B.pre
  have hall : ∀ w ∈ w_all, w.before _ s = true := fun w hw => hts w (List.mem_cons_of_mem _ hw)
  have hown : s.vm.findClass R_Node = some m.cls := findClass_of_methodNamed B.named
  have hx := B.exec
  have hb := B.bytes
  have hr := B.returns
  have hlk := B.notSynchronized
  have cx : Cx p s m _ meth c g R R_Node b_Node_refusalOf 2 (some .int) := ⟨hx, hb, hml, hr, hlk, hown, hall, hT, hK⟩
  have hl := lv_entry ([.ref a0, .int x1]) (n := 2) (Nat.le_of_ble_eq_true rfl)
  rw [lg_entry_eq]
  generalize (lg_sl ([.ref a0, .int x1]) ++ List.replicate (2 - (lg_sl ([.ref a0, .int x1])).length) Slot.unset).toArray = ls at hl ⊢
  have hl : lv_has ls 2 [(0, .ref a0), (1, .int x1)] := hl
  have hS : va_S (· ∈ g.L) s.heap s.heap [] := va_S.rf
  unfold F_Node_refusalOf at h
  refine lv_aload_n hx hb d_Node_refusalOf_0 rfl (lv_at hl 0 rfl) ?_
  refine gg_get (C := R_Node) (T := F_Node) (N := 10) (ci := 2) hx hb hall i_Node hown hK hP o0.1 (wE_2 o0.2) rfl 2 (by decide) (hall _ m_40) (fun _ h9 => h9) rfl d_Node_refusalOf_1 ?_
  have o_1 : okA g 1 0 (R a0 2) := ty_Node_2 hT o0
  obtain ⟨v4, e4, h⟩ := ob_el h
  refine gg_Vi (As := []) (rest := []) (ci := 1) (C := R_Log) (T := F_Log) (N := 7) ⟨hx, hb, hml, hown, hall⟩ (c_Log_isFull l hT o_1 e4) (cwV 0 hall (gV m_82 m_83 m_84 m_38 m_81) rfl rfl rfl (by decide +kernel) ⟨Nat.le_of_ble_eq_true rfl, Nat.le_of_ble_eq_true rfl⟩) hK hP hS o_1.1 (wE_1 o_1.2) rfl rfl hl.1 rfl (Nat.le_of_ble_eq_true rfl) d_Node_refusalOf_4 (fun H locs hP hS => ?_)
  refine lv_if_eq hx hb d_Node_refusalOf_7 rfl (fun hc => ?_) (fun hc => ?_)
  · replace h := i_pos hc h
    refine lv_iload_n hx hb d_Node_refusalOf_13 rfl (lv_at hl 1 rfl) ?_
    refine lv_aload_n hx hb d_Node_refusalOf_14 rfl (lv_at hl 0 rfl) ?_
    refine gg_get (C := R_Node) (T := F_Node) (N := 10) (ci := 2) hx hb hall i_Node hown hK hP o0.1 (wE_2 o0.2) rfl 7 (by decide) (hall _ m_85) (fun _ h9 => h9) rfl d_Node_refusalOf_15 ?_
    refine lv_icmp_ge hx hb d_Node_refusalOf_18 rfl (fun hc => ?_) (fun hc => ?_)
    · replace h := i_pos hc h
      refine lv_bipush (v := (-7)) hx hb d_Node_refusalOf_25 (by decide) ?_
      obtain rfl := Option.some.inj h
      exact gg_iret hx hb hr hlk hK hP hS d_Node_refusalOf_27
    · replace h := i_neg hc h
      refine lv_iconst (v := 0) hx hb d_Node_refusalOf_21 (by decide) ?_
      refine lv_goto hx hb d_Node_refusalOf_22 rfl ?_
      obtain rfl := Option.some.inj h
      exact gg_iret hx hb hr hlk hK hP hS d_Node_refusalOf_27
  · replace h := i_neg hc h
    refine lv_bipush (v := (-6)) hx hb d_Node_refusalOf_10 (by decide) ?_
    obtain rfl := Option.some.inj h
    exact gg_iret hx hb hr hlk hK hP hS d_Node_refusalOf_12
abbrev b_Log_append : ByteArray := prog_3_method_3_code
def y_Log_append : MethodName := ⟨"StampedStore$Log", "append", "(IIIII)V"⟩
def w_Log_append : List Cond := .code y_Log_append b_Log_append 6 none :: w_all
theorem d_Log_append_0 : decode b_Log_append 0 = .ok (.aload_n 0, 1) := by decide +kernel
theorem d_Log_append_1 : decode b_Log_append 1 = .ok (.invokevirtual 31, 3) := by decide +kernel
theorem d_Log_append_4 : decode b_Log_append 4 = .ok (.ifCond .eq 4, 3) := by decide +kernel
theorem d_Log_append_7 : decode b_Log_append 7 = .ok (.return_, 1) := by decide +kernel
theorem d_Log_append_8 : decode b_Log_append 8 = .ok (.aload_n 0, 1) := by decide +kernel
theorem d_Log_append_9 : decode b_Log_append 9 = .ok (.getfield 9, 3) := by decide +kernel
theorem d_Log_append_12 : decode b_Log_append 12 = .ok (.aload_n 0, 1) := by decide +kernel
theorem d_Log_append_13 : decode b_Log_append 13 = .ok (.getfield 27, 3) := by decide +kernel
theorem d_Log_append_16 : decode b_Log_append 16 = .ok (.iload_n 1, 1) := by decide +kernel
theorem d_Log_append_17 : decode b_Log_append 17 = .ok (.iastore, 1) := by decide +kernel
theorem d_Log_append_18 : decode b_Log_append 18 = .ok (.aload_n 0, 1) := by decide +kernel
theorem d_Log_append_19 : decode b_Log_append 19 = .ok (.getfield 15, 3) := by decide +kernel
theorem d_Log_append_22 : decode b_Log_append 22 = .ok (.aload_n 0, 1) := by decide +kernel
theorem d_Log_append_23 : decode b_Log_append 23 = .ok (.getfield 27, 3) := by decide +kernel
theorem d_Log_append_26 : decode b_Log_append 26 = .ok (.iload_n 2, 1) := by decide +kernel
theorem d_Log_append_27 : decode b_Log_append 27 = .ok (.iastore, 1) := by decide +kernel
theorem d_Log_append_28 : decode b_Log_append 28 = .ok (.aload_n 0, 1) := by decide +kernel
theorem d_Log_append_29 : decode b_Log_append 29 = .ok (.getfield 18, 3) := by decide +kernel
theorem d_Log_append_32 : decode b_Log_append 32 = .ok (.aload_n 0, 1) := by decide +kernel
theorem d_Log_append_33 : decode b_Log_append 33 = .ok (.getfield 27, 3) := by decide +kernel
theorem d_Log_append_36 : decode b_Log_append 36 = .ok (.iload_n 3, 1) := by decide +kernel
theorem d_Log_append_37 : decode b_Log_append 37 = .ok (.iastore, 1) := by decide +kernel
theorem d_Log_append_38 : decode b_Log_append 38 = .ok (.aload_n 0, 1) := by decide +kernel
theorem d_Log_append_39 : decode b_Log_append 39 = .ok (.getfield 21, 3) := by decide +kernel
theorem d_Log_append_42 : decode b_Log_append 42 = .ok (.aload_n 0, 1) := by decide +kernel
theorem d_Log_append_43 : decode b_Log_append 43 = .ok (.getfield 27, 3) := by decide +kernel
theorem d_Log_append_46 : decode b_Log_append 46 = .ok (.iload 4, 2) := by decide +kernel
theorem d_Log_append_48 : decode b_Log_append 48 = .ok (.iastore, 1) := by decide +kernel
theorem d_Log_append_49 : decode b_Log_append 49 = .ok (.aload_n 0, 1) := by decide +kernel
theorem d_Log_append_50 : decode b_Log_append 50 = .ok (.getfield 24, 3) := by decide +kernel
theorem d_Log_append_53 : decode b_Log_append 53 = .ok (.aload_n 0, 1) := by decide +kernel
theorem d_Log_append_54 : decode b_Log_append 54 = .ok (.getfield 27, 3) := by decide +kernel
theorem d_Log_append_57 : decode b_Log_append 57 = .ok (.iload 5, 2) := by decide +kernel
theorem d_Log_append_59 : decode b_Log_append 59 = .ok (.iastore, 1) := by decide +kernel
theorem d_Log_append_60 : decode b_Log_append 60 = .ok (.aload_n 0, 1) := by decide +kernel
theorem d_Log_append_61 : decode b_Log_append 61 = .ok (.dup, 1) := by decide +kernel
theorem d_Log_append_62 : decode b_Log_append 62 = .ok (.getfield 27, 3) := by decide +kernel
theorem d_Log_append_65 : decode b_Log_append 65 = .ok (.iconst 1, 1) := by decide +kernel
theorem d_Log_append_66 : decode b_Log_append 66 = .ok (.iadd, 1) := by decide +kernel
theorem d_Log_append_67 : decode b_Log_append 67 = .ok (.putfield 27, 3) := by decide +kernel
theorem d_Log_append_70 : decode b_Log_append 70 = .ok (.return_, 1) := by decide +kernel
def F_Log_append (R : Nat → Nat → Nat) (a0 : Nat) (x1 : Int32) (x2 : Int32) (x3 : Int32) (x4 : Int32) (x5 : Int32) (I : St) : Option St := (ob (F_Log_isFull R a0 I) (fun v1 => (if v1 = 0 then (chk (I a0 5) 60 (ap (up2 I (R a0 0) (I a0 5).toNatClampNeg x1) (fun I17 => (chk (I17 a0 5) 60 (ap (up2 I17 (R a0 1) (I17 a0 5).toNatClampNeg x2) (fun I27 => (chk (I27 a0 5) 60 (ap (up2 I27 (R a0 2) (I27 a0 5).toNatClampNeg x3) (fun I37 => (chk (I37 a0 5) 60 (ap (up2 I37 (R a0 3) (I37 a0 5).toNatClampNeg x4) (fun I48 => (chk (I48 a0 5) 60 (ap (up2 I48 (R a0 4) (I48 a0 5).toNatClampNeg x5) (fun I59 => (ap (up2 I59 a0 5 ((I59 a0 5) + (1 : Int32))) (fun I67 => some I67))))))))))))))))) else some I)))
set_option maxHeartbeats 4000000 in
set_option maxRecDepth 100000 in
theorem c_Log_append (l : Launch) {g : Sg} {R : Nat → Nat → Nat} (hT : Ty g R) {a0 : Nat} (o0 : okA g 1 0 a0) {x1 : Int32} {x2 : Int32} {x3 : Int32} {x4 : Int32} {x5 : Int32} {I : St} {J : St} (h : F_Log_append R a0 x1 x2 x3 x4 x5 I = some J) : Ctv l g R y_Log_append w_Log_append 1 20 [.ref a0, .int x1, .int x2, .int x3, .int x4, .int x5] I J := by
  unfold Ctv
  refine Met.ofW (cc := b_Log_append) (maxL := 6) (ret := none) (by decide) rfl ?_
  intro p e s m args below meth c s₁ B hml hv
  obtain ⟨rfl, hP, hK⟩ := hv
  have hts := atoms_spec (ws := w_Log_append) B.pre
  have hall : ∀ w ∈ w_all, w.before _ s = true := fun w hw => hts w (List.mem_cons_of_mem _ hw)
  have hown : s.vm.findClass R_Log = some m.cls := findClass_of_methodNamed B.named
  have hx := B.exec
  have hb := B.bytes
  have hr := B.returns
  have hlk := B.notSynchronized
  have cx : Cx p s m _ meth c g R R_Log b_Log_append 6 none := ⟨hx, hb, hml, hr, hlk, hown, hall, hT, hK⟩
  have hl := lv_entry ([.ref a0, .int x1, .int x2, .int x3, .int x4, .int x5]) (n := 6) (Nat.le_of_ble_eq_true rfl)
  rw [lg_entry_eq]
  generalize (lg_sl ([.ref a0, .int x1, .int x2, .int x3, .int x4, .int x5]) ++ List.replicate (6 - (lg_sl ([.ref a0, .int x1, .int x2, .int x3, .int x4, .int x5])).length) Slot.unset).toArray = ls at hl ⊢
  have hl : lv_has ls 6 [(0, .ref a0), (1, .int x1), (2, .int x2), (3, .int x3), (4, .int x4), (5, .int x5)] := hl
  have hS : va_S (· ∈ g.L) s.heap s.heap [] := va_S.rf
  unfold F_Log_append at h
  refine lv_aload_n hx hb d_Log_append_0 rfl (lv_at hl 0 rfl) ?_
  obtain ⟨v1, e1, h⟩ := ob_el h
  refine gg_Vi (As := []) (rest := []) (ci := 1) (C := R_Log) (T := F_Log) (N := 7) ⟨hx, hb, hml, hown, hall⟩ (c_Log_isFull l hT o0 e1) (cwV 0 hall (gV m_87 m_83 m_84 m_38 m_81) rfl rfl rfl (by decide +kernel) ⟨Nat.le_of_ble_eq_true rfl, Nat.le_of_ble_eq_true rfl⟩) hK hP hS o0.1 (wE_1 o0.2) rfl rfl hl.1 rfl (Nat.le_of_ble_eq_true rfl) d_Log_append_1 (fun H locs hP hS => ?_)
  refine lv_if_eq hx hb d_Log_append_4 rfl (fun hc => ?_) (fun hc => ?_)
  · replace h := i_pos hc h
    refine lv_aload_n hx hb d_Log_append_8 rfl (lv_at hl 0 rfl) ?_
    refine gg_get (C := R_Log) (T := F_Log) (N := 7) (ci := 1) hx hb hall i_Log hown hK hP o0.1 (wE_1 o0.2) rfl 0 (by decide) (hall _ m_33) (fun _ h9 => h9) rfl d_Log_append_9 ?_
    have o_9 : okA g 6 60 (R a0 0) := ty_Log_0 hT o0
    refine lv_aload_n hx hb d_Log_append_12 rfl (lv_at hl 0 rfl) ?_
    refine gg_get (C := R_Log) (T := F_Log) (N := 7) (ci := 1) hx hb hall i_Log hown hK hP o0.1 (wE_1 o0.2) rfl 5 (by decide) (hall _ m_32) (fun _ h9 => h9) rfl d_Log_append_13 ?_
    refine lv_iload_n hx hb d_Log_append_16 rfl (lv_at hl 1 rfl) ?_
    obtain ⟨hi17, h⟩ := chk_el h
    refine gg_iast hx hb hT.1 hK hP hS o_9 hi17 d_Log_append_17 (fun I17 H locs e17 hP hS => ?_)
    replace h := ap_el e17 h
    refine lv_aload_n hx hb d_Log_append_18 rfl (lv_at hl 0 rfl) ?_
    refine gg_get (C := R_Log) (T := F_Log) (N := 7) (ci := 1) hx hb hall i_Log hown hK hP o0.1 (wE_1 o0.2) rfl 1 (by decide) (hall _ m_73) (fun _ h9 => h9) rfl d_Log_append_19 ?_
    have o_19 : okA g 6 60 (R a0 1) := ty_Log_1 hT o0
    refine lv_aload_n hx hb d_Log_append_22 rfl (lv_at hl 0 rfl) ?_
    refine gg_get (C := R_Log) (T := F_Log) (N := 7) (ci := 1) hx hb hall i_Log hown hK hP o0.1 (wE_1 o0.2) rfl 5 (by decide) (hall _ m_32) (fun _ h9 => h9) rfl d_Log_append_23 ?_
    refine lv_iload_n hx hb d_Log_append_26 rfl (lv_at hl 2 rfl) ?_
    obtain ⟨hi27, h⟩ := chk_el h
    refine gg_iast hx hb hT.1 hK hP hS o_19 hi27 d_Log_append_27 (fun I27 H locs e27 hP hS => ?_)
    replace h := ap_el e27 h
    refine lv_aload_n hx hb d_Log_append_28 rfl (lv_at hl 0 rfl) ?_
    refine gg_get (C := R_Log) (T := F_Log) (N := 7) (ci := 1) hx hb hall i_Log hown hK hP o0.1 (wE_1 o0.2) rfl 2 (by decide) (hall _ m_88) (fun _ h9 => h9) rfl d_Log_append_29 ?_
    have o_29 : okA g 6 60 (R a0 2) := ty_Log_2 hT o0
    refine lv_aload_n hx hb d_Log_append_32 rfl (lv_at hl 0 rfl) ?_
    refine gg_get (C := R_Log) (T := F_Log) (N := 7) (ci := 1) hx hb hall i_Log hown hK hP o0.1 (wE_1 o0.2) rfl 5 (by decide) (hall _ m_32) (fun _ h9 => h9) rfl d_Log_append_33 ?_
    refine lv_iload_n hx hb d_Log_append_36 rfl (lv_at hl 3 rfl) ?_
    obtain ⟨hi37, h⟩ := chk_el h
    refine gg_iast hx hb hT.1 hK hP hS o_29 hi37 d_Log_append_37 (fun I37 H locs e37 hP hS => ?_)
    replace h := ap_el e37 h
    refine lv_aload_n hx hb d_Log_append_38 rfl (lv_at hl 0 rfl) ?_
    refine gg_get (C := R_Log) (T := F_Log) (N := 7) (ci := 1) hx hb hall i_Log hown hK hP o0.1 (wE_1 o0.2) rfl 3 (by decide) (hall _ m_89) (fun _ h9 => h9) rfl d_Log_append_39 ?_
    have o_39 : okA g 6 60 (R a0 3) := ty_Log_3 hT o0
    refine lv_aload_n hx hb d_Log_append_42 rfl (lv_at hl 0 rfl) ?_
    refine gg_get (C := R_Log) (T := F_Log) (N := 7) (ci := 1) hx hb hall i_Log hown hK hP o0.1 (wE_1 o0.2) rfl 5 (by decide) (hall _ m_32) (fun _ h9 => h9) rfl d_Log_append_43 ?_
    refine lv_iload hx hb d_Log_append_46 (lv_at hl 4 rfl) ?_
    obtain ⟨hi48, h⟩ := chk_el h
    refine gg_iast hx hb hT.1 hK hP hS o_39 hi48 d_Log_append_48 (fun I48 H locs e48 hP hS => ?_)
    replace h := ap_el e48 h
    refine lv_aload_n hx hb d_Log_append_49 rfl (lv_at hl 0 rfl) ?_
    refine gg_get (C := R_Log) (T := F_Log) (N := 7) (ci := 1) hx hb hall i_Log hown hK hP o0.1 (wE_1 o0.2) rfl 4 (by decide) (hall _ m_74) (fun _ h9 => h9) rfl d_Log_append_50 ?_
    have o_50 : okA g 6 60 (R a0 4) := ty_Log_4 hT o0
    refine lv_aload_n hx hb d_Log_append_53 rfl (lv_at hl 0 rfl) ?_
    refine gg_get (C := R_Log) (T := F_Log) (N := 7) (ci := 1) hx hb hall i_Log hown hK hP o0.1 (wE_1 o0.2) rfl 5 (by decide) (hall _ m_32) (fun _ h9 => h9) rfl d_Log_append_54 ?_
    refine lv_iload hx hb d_Log_append_57 (lv_at hl 5 rfl) ?_
    obtain ⟨hi59, h⟩ := chk_el h
    refine gg_iast hx hb hT.1 hK hP hS o_50 hi59 d_Log_append_59 (fun I59 H locs e59 hP hS => ?_)
    replace h := ap_el e59 h
    refine lv_aload_n hx hb d_Log_append_60 rfl (lv_at hl 0 rfl) ?_
    refine lv_dup hx hb d_Log_append_61 rfl ?_
    refine gg_get (C := R_Log) (T := F_Log) (N := 7) (ci := 1) hx hb hall i_Log hown hK hP o0.1 (wE_1 o0.2) rfl 5 (by decide) (hall _ m_32) (fun _ h9 => h9) rfl d_Log_append_62 ?_
    refine lv_iconst (v := 1) hx hb d_Log_append_65 (by decide) ?_
    refine lv_iadd hx hb d_Log_append_66 ?_
    refine gg_put (C := R_Log) (T := F_Log) (N := 7) (ci := 1) (ty := .int) hx hb hall i_Log t_Log t_Log_ok n_Log hown hT.1 hK hP hS o0.1 (wE_1 o0.2) rfl 5 (by decide) (hall _ m_32) (fun _ h9 => h9) rfl (by decide +kernel) rfl rfl (Nat.le_of_ble_eq_true rfl) (ws_Log_5 o0.2) d_Log_append_67 (fun I67 H locs e67 hP hS => ?_)
    replace h := ap_el e67 h
    obtain rfl := Option.some.inj h
    exact gg_vret hx hb hr hlk hK hP hS d_Log_append_70
  · replace h := i_neg hc h
    obtain rfl := Option.some.inj h
    exact gg_vret hx hb hr hlk hK hP hS d_Log_append_7
abbrev b_Node_put : ByteArray := prog_4_method_11_code
def y_Node_put : MethodName := ⟨"StampedStore$Node", "put", "(IIII)I"⟩
def w_Node_put : List Cond := .code y_Node_put b_Node_put 7 (some .int) :: w_all
theorem d_Node_put_0 : decode b_Node_put 0 = .ok (.aload_n 0, 1) := by decide +kernel
theorem d_Node_put_1 : decode b_Node_put 1 = .ok (.invokevirtual 83, 3) := by decide +kernel
theorem d_Node_put_4 : decode b_Node_put 4 = .ok (.iload 4, 2) := by decide +kernel
theorem d_Node_put_6 : decode b_Node_put 6 = .ok (.invokestatic 73, 3) := by decide +kernel
theorem d_Node_put_9 : decode b_Node_put 9 = .ok (.istore 5, 2) := by decide +kernel
theorem d_Node_put_11 : decode b_Node_put 11 = .ok (.aload_n 0, 1) := by decide +kernel
theorem d_Node_put_12 : decode b_Node_put 12 = .ok (.iload 5, 2) := by decide +kernel
theorem d_Node_put_14 : decode b_Node_put 14 = .ok (.invokevirtual 86, 3) := by decide +kernel
theorem d_Node_put_17 : decode b_Node_put 17 = .ok (.istore 6, 2) := by decide +kernel
theorem d_Node_put_19 : decode b_Node_put 19 = .ok (.iload 6, 2) := by decide +kernel
theorem d_Node_put_21 : decode b_Node_put 21 = .ok (.ifCond .ge 6, 3) := by decide +kernel
theorem d_Node_put_24 : decode b_Node_put 24 = .ok (.iload 6, 2) := by decide +kernel
theorem d_Node_put_26 : decode b_Node_put 26 = .ok (.ireturn, 1) := by decide +kernel
theorem d_Node_put_27 : decode b_Node_put 27 = .ok (.aload_n 0, 1) := by decide +kernel
theorem d_Node_put_28 : decode b_Node_put 28 = .ok (.getfield 12, 3) := by decide +kernel
theorem d_Node_put_31 : decode b_Node_put 31 = .ok (.aload_n 0, 1) := by decide +kernel
theorem d_Node_put_32 : decode b_Node_put 32 = .ok (.getfield 54, 3) := by decide +kernel
theorem d_Node_put_35 : decode b_Node_put 35 = .ok (.iload 5, 2) := by decide +kernel
theorem d_Node_put_37 : decode b_Node_put 37 = .ok (.iload_n 1, 1) := by decide +kernel
theorem d_Node_put_38 : decode b_Node_put 38 = .ok (.iload_n 2, 1) := by decide +kernel
theorem d_Node_put_39 : decode b_Node_put 39 = .ok (.iload_n 3, 1) := by decide +kernel
theorem d_Node_put_40 : decode b_Node_put 40 = .ok (.invokevirtual 90, 3) := by decide +kernel
theorem d_Node_put_43 : decode b_Node_put 43 = .ok (.iload 5, 2) := by decide +kernel
theorem d_Node_put_45 : decode b_Node_put 45 = .ok (.ireturn, 1) := by decide +kernel
def F_Node_put (R : Nat → Nat → Nat) (a0 : Nat) (x1 : Int32) (x2 : Int32) (x3 : Int32) (x4 : Int32) (I : St) : Option (Int32 × St) := (ob (F_Node_nextStamp R a0 I) (fun v1 => (ob (F_Node_refusalOf R a0 (imax v1 x4) I) (fun v14 => (if 0 ≤ v14 then (ob (F_Log_append R (R a0 2) (I a0 6) (imax v1 x4) x1 x2 x3 I) (fun I40 => some ((imax v1 x4), I40))) else some (v14, I))))))
set_option maxHeartbeats 4000000 in
set_option maxRecDepth 100000 in
theorem c_Node_put (l : Launch) {g : Sg} {R : Nat → Nat → Nat} (hT : Ty g R) {a0 : Nat} (o0 : okA g 2 0 a0) {x1 : Int32} {x2 : Int32} {x3 : Int32} {x4 : Int32} {I : St} {J : St} {v : Int32} (h : F_Node_put R a0 x1 x2 x3 x4 I = some (v, J)) : Cti l g R y_Node_put w_Node_put 3 64 [.ref a0, .int x1, .int x2, .int x3, .int x4] I v J := by
  unfold Cti
  refine Met.ofW (cc := b_Node_put) (maxL := 7) (ret := (some .int)) (by decide) rfl ?_
  intro p e s m args below meth c s₁ B hml hv
  obtain ⟨rfl, hP, hK⟩ := hv
  have hts := atoms_spec (ws := w_Node_put) B.pre
  have hall : ∀ w ∈ w_all, w.before _ s = true := fun w hw => hts w (List.mem_cons_of_mem _ hw)
  have hown : s.vm.findClass R_Node = some m.cls := findClass_of_methodNamed B.named
  have hx := B.exec
  have hb := B.bytes
  have hr := B.returns
  have hlk := B.notSynchronized
  have cx : Cx p s m _ meth c g R R_Node b_Node_put 7 (some .int) := ⟨hx, hb, hml, hr, hlk, hown, hall, hT, hK⟩
  have hl := lv_entry ([.ref a0, .int x1, .int x2, .int x3, .int x4]) (n := 7) (Nat.le_of_ble_eq_true rfl)
  rw [lg_entry_eq]
  generalize (lg_sl ([.ref a0, .int x1, .int x2, .int x3, .int x4]) ++ List.replicate (7 - (lg_sl ([.ref a0, .int x1, .int x2, .int x3, .int x4])).length) Slot.unset).toArray = ls at hl ⊢
  have hl : lv_has ls 7 [(0, .ref a0), (1, .int x1), (2, .int x2), (3, .int x3), (4, .int x4)] := hl
  have hS : va_S (· ∈ g.L) s.heap s.heap [] := va_S.rf
  unfold F_Node_put at h
  refine lv_aload_n hx hb d_Node_put_0 rfl (lv_at hl 0 rfl) ?_
  obtain ⟨v1, e1, h⟩ := ob_el h
  refine gg_Vi (As := []) (rest := []) (ci := 2) (C := R_Node) (T := F_Node) (N := 10) ⟨hx, hb, hml, hown, hall⟩ (c_Node_nextStamp l hT o0 e1) (cwV 0 hall (gV m_91 m_92 m_93 m_48 m_80) rfl rfl rfl (by decide +kernel) ⟨Nat.le_of_ble_eq_true rfl, Nat.le_of_ble_eq_true rfl⟩) hK hP hS o0.1 (wE_2 o0.2) rfl rfl hl.1 rfl (Nat.le_of_ble_eq_true rfl) d_Node_put_1 (fun H locs hP hS => ?_)
  refine lv_iload hx hb d_Node_put_4 (lv_at hl 4 rfl) ?_
  refine gg_max hx hb hml hl.1 hown (hall _ m_57) (hall _ m_58) (hall _ m_18) (hall _ m_59) (Nat.le_of_ble_eq_true rfl) (Nat.le_of_ble_eq_true rfl) d_Node_put_6 ?_
  refine lv_istore (lv' := [(5, .int (imax v1 x4)), (0, .ref a0), (1, .int x1), (2, .int x2), (3, .int x3), (4, .int x4)]) hx hb d_Node_put_9 hl (Nat.le_of_ble_eq_true rfl) rfl (fun ls hl => ?_)
  refine lv_aload_n hx hb d_Node_put_11 rfl (lv_at hl 1 rfl) ?_
  refine lv_iload hx hb d_Node_put_12 (lv_at hl 0 rfl) ?_
  obtain ⟨v14, e14, h⟩ := ob_el h
  refine gg_Vi (As := [.int (imax v1 x4)]) (rest := []) (ci := 2) (C := R_Node) (T := F_Node) (N := 10) ⟨hx, hb, hml, hown, hall⟩ (c_Node_refusalOf l hT o0 e14) (cwV 1 hall (gV m_94 m_95 m_96 m_48 m_86) rfl rfl rfl (by decide +kernel) ⟨Nat.le_of_ble_eq_true rfl, Nat.le_of_ble_eq_true rfl⟩) hK hP hS o0.1 (wE_2 o0.2) rfl rfl hl.1 rfl (Nat.le_of_ble_eq_true rfl) d_Node_put_14 (fun H locs hP hS => ?_)
  refine lv_istore (lv' := [(6, .int v14), (5, .int (imax v1 x4)), (0, .ref a0), (1, .int x1), (2, .int x2), (3, .int x3), (4, .int x4)]) hx hb d_Node_put_17 hl (Nat.le_of_ble_eq_true rfl) rfl (fun ls hl => ?_)
  refine lv_iload hx hb d_Node_put_19 (lv_at hl 0 rfl) ?_
  refine lv_if_ge hx hb d_Node_put_21 rfl (fun hc => ?_) (fun hc => ?_)
  · replace h := i_pos hc h
    refine lv_aload_n hx hb d_Node_put_27 rfl (lv_at hl 2 rfl) ?_
    refine gg_get (C := R_Node) (T := F_Node) (N := 10) (ci := 2) hx hb hall i_Node hown hK hP o0.1 (wE_2 o0.2) rfl 2 (by decide) (hall _ m_40) (fun _ h9 => h9) rfl d_Node_put_28 ?_
    have o_28 : okA g 1 0 (R a0 2) := ty_Node_2 hT o0
    refine lv_aload_n hx hb d_Node_put_31 rfl (lv_at hl 2 rfl) ?_
    refine gg_get (C := R_Node) (T := F_Node) (N := 10) (ci := 2) hx hb hall i_Node hown hK hP o0.1 (wE_2 o0.2) rfl 6 (by decide) (hall _ m_17) (fun _ h9 => h9) rfl d_Node_put_32 ?_
    refine lv_iload hx hb d_Node_put_35 (lv_at hl 1 rfl) ?_
    refine lv_iload_n hx hb d_Node_put_37 rfl (lv_at hl 3 rfl) ?_
    refine lv_iload_n hx hb d_Node_put_38 rfl (lv_at hl 4 rfl) ?_
    refine lv_iload_n hx hb d_Node_put_39 rfl (lv_at hl 5 rfl) ?_
    obtain ⟨I40, e40, h⟩ := ob_el h
    refine gg_Vv (As := [.int (I a0 6), .int (imax v1 x4), .int x1, .int x2, .int x3]) (rest := []) (ci := 1) (C := R_Log) (T := F_Log) (N := 7) ⟨hx, hb, hml, hown, hall⟩ (c_Log_append l hT o_28 e40) (cwV 5 hall (gV m_97 m_98 m_99 m_38 m_90) rfl rfl rfl (by decide +kernel) ⟨Nat.le_of_ble_eq_true rfl, Nat.le_of_ble_eq_true rfl⟩) hK hP hS o_28.1 (wE_1 o_28.2) rfl rfl hl.1 rfl (Nat.le_of_ble_eq_true rfl) d_Node_put_40 (fun H locs hP hS => ?_)
    refine lv_iload hx hb d_Node_put_43 (lv_at hl 1 rfl) ?_
    obtain ⟨rfl, rfl⟩ := rt_el h
    exact gg_iret hx hb hr hlk hK hP hS d_Node_put_45
  · replace h := i_neg hc h
    refine lv_iload hx hb d_Node_put_24 (lv_at hl 0 rfl) ?_
    obtain ⟨rfl, rfl⟩ := rt_el h
    exact gg_iret hx hb hr hlk hK hP hS d_Node_put_26
abbrev b_Store_elect : ByteArray := prog_1_method_6_code
def y_Store_elect : MethodName := ⟨"StampedStore", "elect", "(I)I"⟩
def w_Store_elect : List Cond := .code y_Store_elect b_Store_elect 5 (some .int) :: w_all
theorem d_Store_elect_0 : decode b_Store_elect 0 = .ok (.iload_n 1, 1) := by decide +kernel
theorem d_Store_elect_1 : decode b_Store_elect 1 = .ok (.invokestatic 38, 3) := by decide +kernel
theorem d_Store_elect_4 : decode b_Store_elect 4 = .ok (.ifCond .eq 15, 3) := by decide +kernel
theorem d_Store_elect_7 : decode b_Store_elect 7 = .ok (.aload_n 0, 1) := by decide +kernel
theorem d_Store_elect_8 : decode b_Store_elect 8 = .ok (.getfield 11, 3) := by decide +kernel
theorem d_Store_elect_11 : decode b_Store_elect 11 = .ok (.iload_n 1, 1) := by decide +kernel
theorem d_Store_elect_12 : decode b_Store_elect 12 = .ok (.aaload, 1) := by decide +kernel
theorem d_Store_elect_13 : decode b_Store_elect 13 = .ok (.getfield 48, 3) := by decide +kernel
theorem d_Store_elect_16 : decode b_Store_elect 16 = .ok (.ifCond .ne 5, 3) := by decide +kernel
theorem d_Store_elect_19 : decode b_Store_elect 19 = .ok (.iconst (-1), 1) := by decide +kernel
theorem d_Store_elect_20 : decode b_Store_elect 20 = .ok (.ireturn, 1) := by decide +kernel
theorem d_Store_elect_21 : decode b_Store_elect 21 = .ok (.aload_n 0, 1) := by decide +kernel
theorem d_Store_elect_22 : decode b_Store_elect 22 = .ok (.getfield 11, 3) := by decide +kernel
theorem d_Store_elect_25 : decode b_Store_elect 25 = .ok (.iload_n 1, 1) := by decide +kernel
theorem d_Store_elect_26 : decode b_Store_elect 26 = .ok (.aaload, 1) := by decide +kernel
theorem d_Store_elect_27 : decode b_Store_elect 27 = .ok (.astore_n 2, 1) := by decide +kernel
theorem d_Store_elect_28 : decode b_Store_elect 28 = .ok (.aload_n 2, 1) := by decide +kernel
theorem d_Store_elect_29 : decode b_Store_elect 29 = .ok (.invokevirtual 55, 3) := by decide +kernel
theorem d_Store_elect_32 : decode b_Store_elect 32 = .ok (.istore_n 3, 1) := by decide +kernel
theorem d_Store_elect_33 : decode b_Store_elect 33 = .ok (.aload_n 0, 1) := by decide +kernel
theorem d_Store_elect_34 : decode b_Store_elect 34 = .ok (.aload_n 2, 1) := by decide +kernel
theorem d_Store_elect_35 : decode b_Store_elect 35 = .ok (.iload_n 3, 1) := by decide +kernel
theorem d_Store_elect_36 : decode b_Store_elect 36 = .ok (.invokevirtual 59, 3) := by decide +kernel
theorem d_Store_elect_39 : decode b_Store_elect 39 = .ok (.istore 4, 2) := by decide +kernel
theorem d_Store_elect_41 : decode b_Store_elect 41 = .ok (.aload_n 2, 1) := by decide +kernel
theorem d_Store_elect_42 : decode b_Store_elect 42 = .ok (.getfield 63, 3) := by decide +kernel
theorem d_Store_elect_45 : decode b_Store_elect 45 = .ok (.iload_n 3, 1) := by decide +kernel
theorem d_Store_elect_46 : decode b_Store_elect 46 = .ok (.if_icmp .ne 9, 3) := by decide +kernel
theorem d_Store_elect_49 : decode b_Store_elect 49 = .ok (.iload 4, 2) := by decide +kernel
theorem d_Store_elect_51 : decode b_Store_elect 51 = .ok (.iconst 2, 1) := by decide +kernel
theorem d_Store_elect_52 : decode b_Store_elect 52 = .ok (.if_icmp .ge 5, 3) := by decide +kernel
theorem d_Store_elect_55 : decode b_Store_elect 55 = .ok (.iconst 0, 1) := by decide +kernel
theorem d_Store_elect_56 : decode b_Store_elect 56 = .ok (.ireturn, 1) := by decide +kernel
theorem d_Store_elect_57 : decode b_Store_elect 57 = .ok (.aload_n 2, 1) := by decide +kernel
theorem d_Store_elect_58 : decode b_Store_elect 58 = .ok (.iconst 1, 1) := by decide +kernel
theorem d_Store_elect_59 : decode b_Store_elect 59 = .ok (.putfield 52, 3) := by decide +kernel
theorem d_Store_elect_62 : decode b_Store_elect 62 = .ok (.aload_n 2, 1) := by decide +kernel
theorem d_Store_elect_63 : decode b_Store_elect 63 = .ok (.aload_n 2, 1) := by decide +kernel
theorem d_Store_elect_64 : decode b_Store_elect 64 = .ok (.invokevirtual 66, 3) := by decide +kernel
theorem d_Store_elect_67 : decode b_Store_elect 67 = .ok (.bipush 40, 2) := by decide +kernel
theorem d_Store_elect_69 : decode b_Store_elect 69 = .ok (.iadd, 1) := by decide +kernel
theorem d_Store_elect_70 : decode b_Store_elect 70 = .ok (.putfield 69, 3) := by decide +kernel
theorem d_Store_elect_73 : decode b_Store_elect 73 = .ok (.aload_n 2, 1) := by decide +kernel
theorem d_Store_elect_74 : decode b_Store_elect 74 = .ok (.iconst 0, 1) := by decide +kernel
theorem d_Store_elect_75 : decode b_Store_elect 75 = .ok (.iconst (-1), 1) := by decide +kernel
theorem d_Store_elect_76 : decode b_Store_elect 76 = .ok (.iconst (-1), 1) := by decide +kernel
theorem d_Store_elect_77 : decode b_Store_elect 77 = .ok (.iconst 0, 1) := by decide +kernel
theorem d_Store_elect_78 : decode b_Store_elect 78 = .ok (.invokevirtual 72, 3) := by decide +kernel
theorem d_Store_elect_81 : decode b_Store_elect 81 = .ok (.pop, 1) := by decide +kernel
theorem d_Store_elect_82 : decode b_Store_elect 82 = .ok (.iload_n 3, 1) := by decide +kernel
theorem d_Store_elect_83 : decode b_Store_elect 83 = .ok (.ireturn, 1) := by decide +kernel
def B_Store_elect_19 (R : Nat → Nat → Nat) (I : St) : Option (Int32 × St) := some ((-1 : Int32), I)
set_option maxHeartbeats 4000000 in
set_option maxRecDepth 100000 in
theorem b_Store_elect_19 {p : Program} {l : Launch} {e : Env} {s : State} {m : MethodId} {args : Array Value} {below : List Frame} {meth : Method} {c : Code} {g : Sg} {R : Nat → Nat → Nat} {J : St} {v : Int32} (cx : Cx p s m args meth c g R R_Store b_Store_elect 5 (some .int)) : ∀ (I : St) (H : Heap) (locs : List Loc) (ls : Array Slot), B_Store_elect_19 R I = some (v, J) → wW g R I H → va_S (· ∈ g.L) s.heap H locs → lv_has ls 5 [] → W p l e { frames := 4, cells := 0, slots := 0, locals := 90 } s m args below meth c H locs 0 0 (MQ below (Qi g R v J) args s 0 0 (· ∈ g.L)) (F0 m 19 ls []) := by
  have ⟨hx, hb, hml, hr, hlk, hown, hall, hT, hK⟩ := cx
  intro I H locs ls h hP hS hl
  unfold B_Store_elect_19 at h
  refine lv_iconst (v := (-1)) hx hb d_Store_elect_19 (by decide) ?_
  obtain ⟨rfl, rfl⟩ := rt_el h
  exact gg_iret hx hb hr hlk hK hP hS d_Store_elect_20
def B_Store_elect_55 (R : Nat → Nat → Nat) (I : St) : Option (Int32 × St) := some ((0 : Int32), I)
set_option maxHeartbeats 4000000 in
set_option maxRecDepth 100000 in
theorem b_Store_elect_55 {p : Program} {l : Launch} {e : Env} {s : State} {m : MethodId} {args : Array Value} {below : List Frame} {meth : Method} {c : Code} {g : Sg} {R : Nat → Nat → Nat} {J : St} {v : Int32} (cx : Cx p s m args meth c g R R_Store b_Store_elect 5 (some .int)) : ∀ (I : St) (H : Heap) (locs : List Loc) (ls : Array Slot), B_Store_elect_55 R I = some (v, J) → wW g R I H → va_S (· ∈ g.L) s.heap H locs → lv_has ls 5 [] → W p l e { frames := 4, cells := 0, slots := 0, locals := 90 } s m args below meth c H locs 0 0 (MQ below (Qi g R v J) args s 0 0 (· ∈ g.L)) (F0 m 55 ls []) := by
  have ⟨hx, hb, hml, hr, hlk, hown, hall, hT, hK⟩ := cx
  intro I H locs ls h hP hS hl
  unfold B_Store_elect_55 at h
  refine lv_iconst (v := 0) hx hb d_Store_elect_55 (by decide) ?_
  obtain ⟨rfl, rfl⟩ := rt_el h
  exact gg_iret hx hb hr hlk hK hP hS d_Store_elect_56
def F_Store_elect (R : Nat → Nat → Nat) (a0 : Nat) (x1 : Int32) (I : St) : Option (Int32 × St) := (ob (F_Store_isNode R x1 I) (fun v1 => (if v1 = 0 then B_Store_elect_19 R I else (chk x1 6 ((if (I (R (R a0 1) x1.toNatClampNeg) 3) = 0 then B_Store_elect_19 R I else (chk x1 6 ((ob (F_Node_nextOwnEpoch R (R (R a0 1) x1.toNatClampNeg) I) (fun v29 => (ob2 (F_Store_gatherGrants R a0 (R (R a0 1) x1.toNatClampNeg) v29 I) (fun v36 I36 => (if (I36 (R (R a0 1) x1.toNatClampNeg) 6) = v29 then (if (2 : Int32) ≤ v36 then (ap (up2 I36 (R (R a0 1) x1.toNatClampNeg) 4 (1 : Int32)) (fun I59 => (ob (F_Node_earliest R (R (R a0 1) x1.toNatClampNeg) I59) (fun v64 => (ap (up2 I59 (R (R a0 1) x1.toNatClampNeg) 7 (v64 + (40 : Int32))) (fun I70 => (ob2 (F_Node_put R (R (R a0 1) x1.toNatClampNeg) (0 : Int32) (-1 : Int32) (-1 : Int32) (0 : Int32) I70) (fun v78 I78 => some (v29, I78))))))))) else B_Store_elect_55 R I36) else B_Store_elect_55 R I36)))))))))))))
set_option maxHeartbeats 4000000 in
set_option maxRecDepth 100000 in
theorem c_Store_elect (l : Launch) {g : Sg} {R : Nat → Nat → Nat} (hT : Ty g R) {a0 : Nat} (o0 : okA g 4 0 a0) {x1 : Int32} {I : St} {J : St} {v : Int32} (h : F_Store_elect R a0 x1 I = some (v, J)) : Cti l g R y_Store_elect w_Store_elect 4 90 [.ref a0, .int x1] I v J := by
  unfold Cti
  refine Met.ofW (cc := b_Store_elect) (maxL := 5) (ret := (some .int)) (by decide) rfl ?_
  intro p e s m args below meth c s₁ B hml hv
  obtain ⟨rfl, hP, hK⟩ := hv
  have hts := atoms_spec (ws := w_Store_elect) B.pre
  have hall : ∀ w ∈ w_all, w.before _ s = true := fun w hw => hts w (List.mem_cons_of_mem _ hw)
  have hown : s.vm.findClass R_Store = some m.cls := findClass_of_methodNamed B.named
  have hx := B.exec
  have hb := B.bytes
  have hr := B.returns
  have hlk := B.notSynchronized
  have cx : Cx p s m _ meth c g R R_Store b_Store_elect 5 (some .int) := ⟨hx, hb, hml, hr, hlk, hown, hall, hT, hK⟩
  have hl := lv_entry ([.ref a0, .int x1]) (n := 5) (Nat.le_of_ble_eq_true rfl)
  rw [lg_entry_eq]
  generalize (lg_sl ([.ref a0, .int x1]) ++ List.replicate (5 - (lg_sl ([.ref a0, .int x1])).length) Slot.unset).toArray = ls at hl ⊢
  have hl : lv_has ls 5 [(0, .ref a0), (1, .int x1)] := hl
  have hS : va_S (· ∈ g.L) s.heap s.heap [] := va_S.rf
  unfold F_Store_elect at h
  refine lv_iload_n hx hb d_Store_elect_0 rfl (lv_at hl 1 rfl) ?_
  obtain ⟨v1, e1, h⟩ := ob_el h
  refine gg_Si (As := [.int x1]) (rest := []) ⟨hx, hb, hml, hown, hall⟩ (c_Store_isNode l hT e1) (cwS 1 hall (gS m_4 m_5 m_6 m_3) rfl rfl rfl (by decide +kernel) ⟨Nat.le_of_ble_eq_true rfl, Nat.le_of_ble_eq_true rfl⟩) hK hP hS rfl hl.1 rfl (Nat.le_of_ble_eq_true rfl) d_Store_elect_1 (fun H locs hP hS => ?_)
  refine lv_if_eq hx hb d_Store_elect_4 rfl (fun hc => ?_) (fun hc => ?_)
  · replace h := i_pos hc h
    exact b_Store_elect_19 cx _ _ _ _ h hP hS (lv_sub hl [] rfl)
  · replace h := i_neg hc h
    refine lv_aload_n hx hb d_Store_elect_7 rfl (lv_at hl 0 rfl) ?_
    refine gg_get (C := R_Store) (T := F_Store) (N := 4) (ci := 4) hx hb hall i_Store hown hK hP o0.1 (wE_4 o0.2) rfl 1 (by decide) (hall _ m_8) (fun _ h9 => h9) rfl d_Store_elect_8 ?_
    have o_8 : okA g 8 6 (R a0 1) := ty_Store_1 hT o0
    refine lv_iload_n hx hb d_Store_elect_11 rfl (lv_at hl 1 rfl) ?_
    obtain ⟨hi12, h⟩ := chk_el h
    refine gg_nald hx hb hK hP o_8 hi12 d_Store_elect_12 ?_
    have o_12 : okA g 2 0 (R (R a0 1) x1.toNatClampNeg) := ty_8 hT o_8 _
    refine gg_get (C := R_Node) (T := F_Node) (N := 10) (ci := 2) hx hb hall i_Node hown hK hP o_12.1 (wE_2 o_12.2) rfl 3 (by decide) (hall _ m_11) (fun _ h9 => h9) rfl d_Store_elect_13 ?_
    refine lv_if_ne hx hb d_Store_elect_16 rfl (fun hc => ?_) (fun hc => ?_)
    · replace h := i_neg hc h
      refine lv_aload_n hx hb d_Store_elect_21 rfl (lv_at hl 0 rfl) ?_
      refine gg_get (C := R_Store) (T := F_Store) (N := 4) (ci := 4) hx hb hall i_Store hown hK hP o0.1 (wE_4 o0.2) rfl 1 (by decide) (hall _ m_8) (fun _ h9 => h9) rfl d_Store_elect_22 ?_
      have o_22 : okA g 8 6 (R a0 1) := ty_Store_1 hT o0
      refine lv_iload_n hx hb d_Store_elect_25 rfl (lv_at hl 1 rfl) ?_
      obtain ⟨hi26, h⟩ := chk_el h
      refine gg_nald hx hb hK hP o_22 hi26 d_Store_elect_26 ?_
      have o_26 : okA g 2 0 (R (R a0 1) x1.toNatClampNeg) := ty_8 hT o_22 _
      refine lv_astore_n (lv' := [(2, .ref (R (R a0 1) x1.toNatClampNeg)), (0, .ref a0), (1, .int x1)]) hx hb d_Store_elect_27 rfl hl (Nat.le_of_ble_eq_true rfl) rfl (fun ls hl => ?_)
      refine lv_aload_n hx hb d_Store_elect_28 rfl (lv_at hl 0 rfl) ?_
      obtain ⟨v29, e29, h⟩ := ob_el h
      refine gg_Vi (As := []) (rest := []) (ci := 2) (C := R_Node) (T := F_Node) (N := 10) ⟨hx, hb, hml, hown, hall⟩ (c_Node_nextOwnEpoch l hT o_26 e29) (cwV 0 hall (gV m_101 m_102 m_103 m_48 m_21) rfl rfl rfl (by decide +kernel) ⟨Nat.le_of_ble_eq_true rfl, Nat.le_of_ble_eq_true rfl⟩) hK hP hS o_26.1 (wE_2 o_26.2) rfl rfl hl.1 rfl (Nat.le_of_ble_eq_true rfl) d_Store_elect_29 (fun H locs hP hS => ?_)
      refine lv_istore_n (lv' := [(3, .int v29), (2, .ref (R (R a0 1) x1.toNatClampNeg)), (0, .ref a0), (1, .int x1)]) hx hb d_Store_elect_32 rfl hl (Nat.le_of_ble_eq_true rfl) rfl (fun ls hl => ?_)
      refine lv_aload_n hx hb d_Store_elect_33 rfl (lv_at hl 2 rfl) ?_
      refine lv_aload_n hx hb d_Store_elect_34 rfl (lv_at hl 1 rfl) ?_
      refine lv_iload_n hx hb d_Store_elect_35 rfl (lv_at hl 0 rfl) ?_
      obtain ⟨v36, I36, e36, h⟩ := ob2_el h
      refine gg_Vi (As := [.ref (R (R a0 1) x1.toNatClampNeg), .int v29]) (rest := []) (ci := 4) (C := R_Store) (T := F_Store) (N := 4) ⟨hx, hb, hml, hown, hall⟩ (c_Store_gatherGrants l hT o0 o_26 e36) (cwV 2 hall (gV m_104 m_105 m_106 m_6 m_72) rfl rfl rfl (by decide +kernel) ⟨Nat.le_of_ble_eq_true rfl, Nat.le_of_ble_eq_true rfl⟩) hK hP hS o0.1 (wE_4 o0.2) rfl rfl hl.1 rfl (Nat.le_of_ble_eq_true rfl) d_Store_elect_36 (fun H locs hP hS => ?_)
      refine lv_istore (lv' := [(4, .int v36), (3, .int v29), (2, .ref (R (R a0 1) x1.toNatClampNeg)), (0, .ref a0), (1, .int x1)]) hx hb d_Store_elect_39 hl (Nat.le_of_ble_eq_true rfl) rfl (fun ls hl => ?_)
      refine lv_aload_n hx hb d_Store_elect_41 rfl (lv_at hl 2 rfl) ?_
      refine gg_get (C := R_Node) (T := F_Node) (N := 10) (ci := 2) hx hb hall i_Node hown hK hP o_26.1 (wE_2 o_26.2) rfl 6 (by decide) (hall _ m_107) (fun _ h9 => h9) rfl d_Store_elect_42 ?_
      refine lv_iload_n hx hb d_Store_elect_45 rfl (lv_at hl 1 rfl) ?_
      refine lv_icmp_ne hx hb d_Store_elect_46 rfl (fun hc => ?_) (fun hc => ?_)
      · replace h := i_neg hc h
        exact b_Store_elect_55 cx _ _ _ _ h hP hS (lv_sub hl [] rfl)
      · replace h := i_pos hc h
        refine lv_iload hx hb d_Store_elect_49 (lv_at hl 0 rfl) ?_
        refine lv_iconst (v := 2) hx hb d_Store_elect_51 (by decide) ?_
        refine lv_icmp_ge hx hb d_Store_elect_52 rfl (fun hc => ?_) (fun hc => ?_)
        · replace h := i_pos hc h
          refine lv_aload_n hx hb d_Store_elect_57 rfl (lv_at hl 2 rfl) ?_
          refine lv_iconst (v := 1) hx hb d_Store_elect_58 (by decide) ?_
          refine gg_put (C := R_Node) (T := F_Node) (N := 10) (ci := 2) (ty := .boolean) hx hb hall i_Node t_Node t_Node_ok n_Node hown hT.1 hK hP hS o_26.1 (wE_2 o_26.2) rfl 4 (by decide) (hall _ m_12) (fun _ h9 => h9) rfl (by decide +kernel) rfl rfl (Nat.le_of_ble_eq_true rfl) (ws_Node_4 o_26.2) d_Store_elect_59 (fun I59 H locs e59 hP hS => ?_)
          replace h := ap_el e59 h
          refine lv_aload_n hx hb d_Store_elect_62 rfl (lv_at hl 2 rfl) ?_
          refine lv_aload_n hx hb d_Store_elect_63 rfl (lv_at hl 2 rfl) ?_
          obtain ⟨v64, e64, h⟩ := ob_el h
          refine gg_Vi (As := []) (rest := [.ref (R (R a0 1) x1.toNatClampNeg)]) (ci := 2) (C := R_Node) (T := F_Node) (N := 10) ⟨hx, hb, hml, hown, hall⟩ (c_Node_earliest l hT o_26 e64) (cwV 0 hall (gV m_108 m_46 m_47 m_48 m_31) rfl rfl rfl (by decide +kernel) ⟨Nat.le_of_ble_eq_true rfl, Nat.le_of_ble_eq_true rfl⟩) hK hP hS o_26.1 (wE_2 o_26.2) rfl rfl hl.1 rfl (Nat.le_of_ble_eq_true rfl) d_Store_elect_64 (fun H locs hP hS => ?_)
          refine lv_bipush (v := 40) hx hb d_Store_elect_67 (by decide) ?_
          refine lv_iadd hx hb d_Store_elect_69 ?_
          refine gg_put (C := R_Node) (T := F_Node) (N := 10) (ci := 2) (ty := .int) hx hb hall i_Node t_Node t_Node_ok n_Node hown hT.1 hK hP hS o_26.1 (wE_2 o_26.2) rfl 7 (by decide) (hall _ m_109) (fun _ h9 => h9) rfl (by decide +kernel) rfl rfl (Nat.le_of_ble_eq_true rfl) (ws_Node_7 o_26.2) d_Store_elect_70 (fun I70 H locs e70 hP hS => ?_)
          replace h := ap_el e70 h
          refine lv_aload_n hx hb d_Store_elect_73 rfl (lv_at hl 2 rfl) ?_
          refine lv_iconst (v := 0) hx hb d_Store_elect_74 (by decide) ?_
          refine lv_iconst (v := (-1)) hx hb d_Store_elect_75 (by decide) ?_
          refine lv_iconst (v := (-1)) hx hb d_Store_elect_76 (by decide) ?_
          refine lv_iconst (v := 0) hx hb d_Store_elect_77 (by decide) ?_
          obtain ⟨v78, I78, e78, h⟩ := ob2_el h
          refine gg_Vi (As := [.int (0 : Int32), .int (-1 : Int32), .int (-1 : Int32), .int (0 : Int32)]) (rest := []) (ci := 2) (C := R_Node) (T := F_Node) (N := 10) ⟨hx, hb, hml, hown, hall⟩ (c_Node_put l hT o_26 e78) (cwV 4 hall (gV m_110 m_111 m_112 m_48 m_100) rfl rfl rfl (by decide +kernel) ⟨Nat.le_of_ble_eq_true rfl, Nat.le_of_ble_eq_true rfl⟩) hK hP hS o_26.1 (wE_2 o_26.2) rfl rfl hl.1 rfl (Nat.le_of_ble_eq_true rfl) d_Store_elect_78 (fun H locs hP hS => ?_)
          refine lv_pop hx hb d_Store_elect_81 rfl ?_
          refine lv_iload_n hx hb d_Store_elect_82 rfl (lv_at hl 1 rfl) ?_
          obtain ⟨rfl, rfl⟩ := rt_el h
          exact gg_iret hx hb hr hlk hK hP hS d_Store_elect_83
        · replace h := i_neg hc h
          exact b_Store_elect_55 cx _ _ _ _ h hP hS (lv_sub hl [] rfl)
    · replace h := i_pos hc h
      exact b_Store_elect_19 cx _ _ _ _ h hP hS (lv_sub hl [] rfl)
abbrev b_Store_renewPromises : ByteArray := prog_1_method_30_code
def y_Store_renewPromises : MethodName := ⟨"StampedStore", "renewPromises", "(LStampedStore$Node;)I"⟩
def w_Store_renewPromises : List Cond := .code y_Store_renewPromises b_Store_renewPromises 5 (some .int) :: w_all
theorem d_Store_renewPromises_0 : decode b_Store_renewPromises 0 = .ok (.aload_n 1, 1) := by decide +kernel
theorem d_Store_renewPromises_1 : decode b_Store_renewPromises 1 = .ok (.invokestatic 207, 3) := by decide +kernel
theorem d_Store_renewPromises_4 : decode b_Store_renewPromises 4 = .ok (.istore_n 2, 1) := by decide +kernel
theorem d_Store_renewPromises_5 : decode b_Store_renewPromises 5 = .ok (.iconst 0, 1) := by decide +kernel
theorem d_Store_renewPromises_6 : decode b_Store_renewPromises 6 = .ok (.istore_n 3, 1) := by decide +kernel
theorem d_Store_renewPromises_7 : decode b_Store_renewPromises 7 = .ok (.iload_n 2, 1) := by decide +kernel
theorem d_Store_renewPromises_8 : decode b_Store_renewPromises 8 = .ok (.istore 4, 2) := by decide +kernel
theorem d_Store_renewPromises_10 : decode b_Store_renewPromises 10 = .ok (.iload 4, 2) := by decide +kernel
theorem d_Store_renewPromises_12 : decode b_Store_renewPromises 12 = .ok (.iload_n 2, 1) := by decide +kernel
theorem d_Store_renewPromises_13 : decode b_Store_renewPromises 13 = .ok (.iconst 3, 1) := by decide +kernel
theorem d_Store_renewPromises_14 : decode b_Store_renewPromises 14 = .ok (.iadd, 1) := by decide +kernel
theorem d_Store_renewPromises_15 : decode b_Store_renewPromises 15 = .ok (.if_icmp .ge 53, 3) := by decide +kernel
theorem d_Store_renewPromises_18 : decode b_Store_renewPromises 18 = .ok (.aload_n 0, 1) := by decide +kernel
theorem d_Store_renewPromises_19 : decode b_Store_renewPromises 19 = .ok (.getfield 11, 3) := by decide +kernel
theorem d_Store_renewPromises_22 : decode b_Store_renewPromises 22 = .ok (.iload 4, 2) := by decide +kernel
theorem d_Store_renewPromises_24 : decode b_Store_renewPromises 24 = .ok (.aaload, 1) := by decide +kernel
theorem d_Store_renewPromises_25 : decode b_Store_renewPromises 25 = .ok (.getfield 48, 3) := by decide +kernel
theorem d_Store_renewPromises_28 : decode b_Store_renewPromises 28 = .ok (.ifCond .eq 34, 3) := by decide +kernel
theorem d_Store_renewPromises_31 : decode b_Store_renewPromises 31 = .ok (.aload_n 0, 1) := by decide +kernel
theorem d_Store_renewPromises_32 : decode b_Store_renewPromises 32 = .ok (.getfield 11, 3) := by decide +kernel
theorem d_Store_renewPromises_35 : decode b_Store_renewPromises 35 = .ok (.iload 4, 2) := by decide +kernel
theorem d_Store_renewPromises_37 : decode b_Store_renewPromises 37 = .ok (.aaload, 1) := by decide +kernel
theorem d_Store_renewPromises_38 : decode b_Store_renewPromises 38 = .ok (.getfield 63, 3) := by decide +kernel
theorem d_Store_renewPromises_41 : decode b_Store_renewPromises 41 = .ok (.aload_n 1, 1) := by decide +kernel
theorem d_Store_renewPromises_42 : decode b_Store_renewPromises 42 = .ok (.getfield 63, 3) := by decide +kernel
theorem d_Store_renewPromises_45 : decode b_Store_renewPromises 45 = .ok (.if_icmp .ne 17, 3) := by decide +kernel
theorem d_Store_renewPromises_48 : decode b_Store_renewPromises 48 = .ok (.aload_n 0, 1) := by decide +kernel
theorem d_Store_renewPromises_49 : decode b_Store_renewPromises 49 = .ok (.getfield 11, 3) := by decide +kernel
theorem d_Store_renewPromises_52 : decode b_Store_renewPromises 52 = .ok (.iload 4, 2) := by decide +kernel
theorem d_Store_renewPromises_54 : decode b_Store_renewPromises 54 = .ok (.aaload, 1) := by decide +kernel
theorem d_Store_renewPromises_55 : decode b_Store_renewPromises 55 = .ok (.aload_n 1, 1) := by decide +kernel
theorem d_Store_renewPromises_56 : decode b_Store_renewPromises 56 = .ok (.invokevirtual 214, 3) := by decide +kernel
theorem d_Store_renewPromises_59 : decode b_Store_renewPromises 59 = .ok (.iinc 3 1, 3) := by decide +kernel
theorem d_Store_renewPromises_62 : decode b_Store_renewPromises 62 = .ok (.iinc 4 1, 3) := by decide +kernel
theorem d_Store_renewPromises_65 : decode b_Store_renewPromises 65 = .ok (.goto (-55), 3) := by decide +kernel
theorem d_Store_renewPromises_68 : decode b_Store_renewPromises 68 = .ok (.iload_n 3, 1) := by decide +kernel
theorem d_Store_renewPromises_69 : decode b_Store_renewPromises 69 = .ok (.ireturn, 1) := by decide +kernel
def B_Store_renewPromises_62 (R : Nat → Nat → Nat) (k10 : Nat → Nat → Int32 → Int32 → Int32 → St → Option (Int32 × St)) (a0 : Nat) (a1 : Nat) (x2 : Int32) (x3 : Int32) (x4 : Int32) (I : St) : Option (Int32 × St) := k10 a0 a1 x2 x3 (x4 + 1) I
set_option maxHeartbeats 4000000 in
set_option maxRecDepth 100000 in
theorem b_Store_renewPromises_62 {p : Program} {l : Launch} {e : Env} {s : State} {m : MethodId} {args : Array Value} {below : List Frame} {meth : Method} {c : Code} {g : Sg} {R : Nat → Nat → Nat} {J : St} {v : Int32} (cx : Cx p s m args meth c g R R_Store b_Store_renewPromises 5 (some .int)) {k10 : Nat → Nat → Int32 → Int32 → Int32 → St → Option (Int32 × St)} (hk10 : ∀ (a0 : Nat) (a1 : Nat) (x2 : Int32) (x3 : Int32) (x4 : Int32) (I : St) (H : Heap) (locs : List Loc) (ls : Array Slot), okA g 4 0 a0 → okA g 2 0 a1 → k10 a0 a1 x2 x3 x4 I = some (v, J) → wW g R I H → va_S (· ∈ g.L) s.heap H locs → lv_has ls 5 [(0, .ref a0), (1, .ref a1), (2, .int x2), (3, .int x3), (4, .int x4)] → W p l e { frames := 2, cells := 0, slots := 0, locals := 43 } s m args below meth c H locs 0 0 (MQ below (Qi g R v J) args s 0 0 (· ∈ g.L)) (F0 m 10 ls [])) : ∀ (a0 : Nat) (a1 : Nat) (x2 : Int32) (x3 : Int32) (x4 : Int32) (I : St) (H : Heap) (locs : List Loc) (ls : Array Slot), okA g 4 0 a0 → okA g 2 0 a1 → B_Store_renewPromises_62 R k10 a0 a1 x2 x3 x4 I = some (v, J) → wW g R I H → va_S (· ∈ g.L) s.heap H locs → lv_has ls 5 [(0, .ref a0), (1, .ref a1), (2, .int x2), (3, .int x3), (4, .int x4)] → W p l e { frames := 2, cells := 0, slots := 0, locals := 43 } s m args below meth c H locs 0 0 (MQ below (Qi g R v J) args s 0 0 (· ∈ g.L)) (F0 m 62 ls []) := by
  have ⟨hx, hb, hml, hr, hlk, hown, hall, hT, hK⟩ := cx
  intro a0 a1 x2 x3 x4 I H locs ls o0 o1 h hP hS hl
  unfold B_Store_renewPromises_62 at h
  refine lv_iinc (k := 4) (v := (x4 + 1)) (lv' := [(4, .int (x4 + 1)), (0, .ref a0), (1, .ref a1), (2, .int x2), (3, .int x3)]) hx hb d_Store_renewPromises_62 hl rfl (by rw [show Int32.ofInt 1 = (1 : Int32) from by decide]) (Nat.le_of_ble_eq_true rfl) rfl (fun ls hl => ?_)
  refine lv_goto hx hb d_Store_renewPromises_65 rfl ?_
  exact hk10 _ _ _ _ _ _ _ _ _ o0 o1 h hP hS (lv_sub hl [1, 2, 3, 4, 0] rfl)
def B_Store_renewPromises_10 (R : Nat → Nat → Nat) : Nat → Nat → Nat → Int32 → Int32 → Int32 → St → Option (Int32 × St)
  | 0, _, _, _, _, _, _ => none
  | f + 1, a0, a1, x2, x3, x4, I => (if (x2 + (3 : Int32)) ≤ x4 then some (x3, I) else (chk x4 6 ((if (I (R (R a0 1) x4.toNatClampNeg) 3) = 0 then B_Store_renewPromises_62 R (B_Store_renewPromises_10 R f) a0 a1 x2 x3 x4 I else (chk x4 6 ((if (I (R (R a0 1) x4.toNatClampNeg) 6) = (I a1 6) then (chk x4 6 ((ob (F_Node_promiseTo R (R (R a0 1) x4.toNatClampNeg) a1 I) (fun I56 => B_Store_renewPromises_62 R (B_Store_renewPromises_10 R f) a0 a1 x2 (x3 + 1) x4 I56)))) else B_Store_renewPromises_62 R (B_Store_renewPromises_10 R f) a0 a1 x2 x3 x4 I)))))))
set_option maxHeartbeats 4000000 in
set_option maxRecDepth 100000 in
theorem b_Store_renewPromises_10 {p : Program} {l : Launch} {e : Env} {s : State} {m : MethodId} {args : Array Value} {below : List Frame} {meth : Method} {c : Code} {g : Sg} {R : Nat → Nat → Nat} {J : St} {v : Int32} (cx : Cx p s m args meth c g R R_Store b_Store_renewPromises 5 (some .int)) (f : Nat) : ∀ (a0 : Nat) (a1 : Nat) (x2 : Int32) (x3 : Int32) (x4 : Int32) (I : St) (H : Heap) (locs : List Loc) (ls : Array Slot), okA g 4 0 a0 → okA g 2 0 a1 → B_Store_renewPromises_10 R f a0 a1 x2 x3 x4 I = some (v, J) → wW g R I H → va_S (· ∈ g.L) s.heap H locs → lv_has ls 5 [(0, .ref a0), (1, .ref a1), (2, .int x2), (3, .int x3), (4, .int x4)] → W p l e { frames := 2, cells := 0, slots := 0, locals := 43 } s m args below meth c H locs 0 0 (MQ below (Qi g R v J) args s 0 0 (· ∈ g.L)) (F0 m 10 ls []) := by
  have ⟨hx, hb, hml, hr, hlk, hown, hall, hT, hK⟩ := cx
  induction f with
  | zero => intro a0 a1 x2 x3 x4 I H locs ls o0 o1 h; unfold B_Store_renewPromises_10 at h; cases h
  | succ f ih =>
    intro a0 a1 x2 x3 x4 I H locs ls o0 o1 h hP hS hl
    unfold B_Store_renewPromises_10 at h
    refine lv_iload hx hb d_Store_renewPromises_10 (lv_at hl 4 rfl) ?_
    refine lv_iload_n hx hb d_Store_renewPromises_12 rfl (lv_at hl 2 rfl) ?_
    refine lv_iconst (v := 3) hx hb d_Store_renewPromises_13 (by decide) ?_
    refine lv_iadd hx hb d_Store_renewPromises_14 ?_
    refine lv_icmp_ge hx hb d_Store_renewPromises_15 rfl (fun hc => ?_) (fun hc => ?_)
    · replace h := i_pos hc h
      refine lv_iload_n hx hb d_Store_renewPromises_68 rfl (lv_at hl 3 rfl) ?_
      obtain ⟨rfl, rfl⟩ := rt_el h
      exact gg_iret hx hb hr hlk hK hP hS d_Store_renewPromises_69
    · replace h := i_neg hc h
      refine lv_aload_n hx hb d_Store_renewPromises_18 rfl (lv_at hl 0 rfl) ?_
      refine gg_get (C := R_Store) (T := F_Store) (N := 4) (ci := 4) hx hb hall i_Store hown hK hP o0.1 (wE_4 o0.2) rfl 1 (by decide) (hall _ m_8) (fun _ h9 => h9) rfl d_Store_renewPromises_19 ?_
      have o_19 : okA g 8 6 (R a0 1) := ty_Store_1 hT o0
      refine lv_iload hx hb d_Store_renewPromises_22 (lv_at hl 4 rfl) ?_
      obtain ⟨hi24, h⟩ := chk_el h
      refine gg_nald hx hb hK hP o_19 hi24 d_Store_renewPromises_24 ?_
      have o_24 : okA g 2 0 (R (R a0 1) x4.toNatClampNeg) := ty_8 hT o_19 _
      refine gg_get (C := R_Node) (T := F_Node) (N := 10) (ci := 2) hx hb hall i_Node hown hK hP o_24.1 (wE_2 o_24.2) rfl 3 (by decide) (hall _ m_11) (fun _ h9 => h9) rfl d_Store_renewPromises_25 ?_
      refine lv_if_eq hx hb d_Store_renewPromises_28 rfl (fun hc => ?_) (fun hc => ?_)
      · replace h := i_pos hc h
        exact b_Store_renewPromises_62 cx ih _ _ _ _ _ _ _ _ _ o0 o1 h hP hS (lv_sub hl [0, 1, 2, 3, 4] rfl)
      · replace h := i_neg hc h
        refine lv_aload_n hx hb d_Store_renewPromises_31 rfl (lv_at hl 0 rfl) ?_
        refine gg_get (C := R_Store) (T := F_Store) (N := 4) (ci := 4) hx hb hall i_Store hown hK hP o0.1 (wE_4 o0.2) rfl 1 (by decide) (hall _ m_8) (fun _ h9 => h9) rfl d_Store_renewPromises_32 ?_
        have o_32 : okA g 8 6 (R a0 1) := ty_Store_1 hT o0
        refine lv_iload hx hb d_Store_renewPromises_35 (lv_at hl 4 rfl) ?_
        obtain ⟨hi37, h⟩ := chk_el h
        refine gg_nald hx hb hK hP o_32 hi37 d_Store_renewPromises_37 ?_
        have o_37 : okA g 2 0 (R (R a0 1) x4.toNatClampNeg) := ty_8 hT o_32 _
        refine gg_get (C := R_Node) (T := F_Node) (N := 10) (ci := 2) hx hb hall i_Node hown hK hP o_37.1 (wE_2 o_37.2) rfl 6 (by decide) (hall _ m_107) (fun _ h9 => h9) rfl d_Store_renewPromises_38 ?_
        refine lv_aload_n hx hb d_Store_renewPromises_41 rfl (lv_at hl 1 rfl) ?_
        refine gg_get (C := R_Node) (T := F_Node) (N := 10) (ci := 2) hx hb hall i_Node hown hK hP o1.1 (wE_2 o1.2) rfl 6 (by decide) (hall _ m_107) (fun _ h9 => h9) rfl d_Store_renewPromises_42 ?_
        refine lv_icmp_ne hx hb d_Store_renewPromises_45 rfl (fun hc => ?_) (fun hc => ?_)
        · replace h := i_neg hc h
          exact b_Store_renewPromises_62 cx ih _ _ _ _ _ _ _ _ _ o0 o1 h hP hS (lv_sub hl [0, 1, 2, 3, 4] rfl)
        · replace h := i_pos hc h
          refine lv_aload_n hx hb d_Store_renewPromises_48 rfl (lv_at hl 0 rfl) ?_
          refine gg_get (C := R_Store) (T := F_Store) (N := 4) (ci := 4) hx hb hall i_Store hown hK hP o0.1 (wE_4 o0.2) rfl 1 (by decide) (hall _ m_8) (fun _ h9 => h9) rfl d_Store_renewPromises_49 ?_
          have o_49 : okA g 8 6 (R a0 1) := ty_Store_1 hT o0
          refine lv_iload hx hb d_Store_renewPromises_52 (lv_at hl 4 rfl) ?_
          obtain ⟨hi54, h⟩ := chk_el h
          refine gg_nald hx hb hK hP o_49 hi54 d_Store_renewPromises_54 ?_
          have o_54 : okA g 2 0 (R (R a0 1) x4.toNatClampNeg) := ty_8 hT o_49 _
          refine lv_aload_n hx hb d_Store_renewPromises_55 rfl (lv_at hl 1 rfl) ?_
          obtain ⟨I56, e56, h⟩ := ob_el h
          refine gg_Vv (As := [.ref a1]) (rest := []) (ci := 2) (C := R_Node) (T := F_Node) (N := 10) ⟨hx, hb, hml, hown, hall⟩ (c_Node_promiseTo l hT o_54 o1 e56) (cwV 1 hall (gV m_67 m_68 m_69 m_48 m_60) rfl rfl rfl (by decide +kernel) ⟨Nat.le_of_ble_eq_true rfl, Nat.le_of_ble_eq_true rfl⟩) hK hP hS o_54.1 (wE_2 o_54.2) rfl rfl hl.1 rfl (Nat.le_of_ble_eq_true rfl) d_Store_renewPromises_56 (fun H locs hP hS => ?_)
          refine lv_iinc (k := 3) (v := (x3 + 1)) (lv' := [(3, .int (x3 + 1)), (0, .ref a0), (1, .ref a1), (2, .int x2), (4, .int x4)]) hx hb d_Store_renewPromises_59 hl rfl (by rw [show Int32.ofInt 1 = (1 : Int32) from by decide]) (Nat.le_of_ble_eq_true rfl) rfl (fun ls hl => ?_)
          exact b_Store_renewPromises_62 cx ih _ _ _ _ _ _ _ _ _ o0 o1 h hP hS (lv_sub hl [1, 2, 3, 0, 4] rfl)
def F_Store_renewPromises (R : Nat → Nat → Nat) (a0 : Nat) (a1 : Nat) (I : St) : Option (Int32 × St) := (ob (F_Store_firstNodeBeside R a1 I) (fun v1 => B_Store_renewPromises_10 R 100 a0 a1 v1 (0 : Int32) v1 I))
set_option maxHeartbeats 4000000 in
set_option maxRecDepth 100000 in
theorem c_Store_renewPromises (l : Launch) {g : Sg} {R : Nat → Nat → Nat} (hT : Ty g R) {a0 : Nat} (o0 : okA g 4 0 a0) {a1 : Nat} (o1 : okA g 2 0 a1) {I : St} {J : St} {v : Int32} (h : F_Store_renewPromises R a0 a1 I = some (v, J)) : Cti l g R y_Store_renewPromises w_Store_renewPromises 2 43 [.ref a0, .ref a1] I v J := by
  unfold Cti
  refine Met.ofW (cc := b_Store_renewPromises) (maxL := 5) (ret := (some .int)) (by decide) rfl ?_
  intro p e s m args below meth c s₁ B hml hv
  obtain ⟨rfl, hP, hK⟩ := hv
  have hts := atoms_spec (ws := w_Store_renewPromises) B.pre
  have hall : ∀ w ∈ w_all, w.before _ s = true := fun w hw => hts w (List.mem_cons_of_mem _ hw)
  have hown : s.vm.findClass R_Store = some m.cls := findClass_of_methodNamed B.named
  have hx := B.exec
  have hb := B.bytes
  have hr := B.returns
  have hlk := B.notSynchronized
  have cx : Cx p s m _ meth c g R R_Store b_Store_renewPromises 5 (some .int) := ⟨hx, hb, hml, hr, hlk, hown, hall, hT, hK⟩
  have hl := lv_entry ([.ref a0, .ref a1]) (n := 5) (Nat.le_of_ble_eq_true rfl)
  rw [lg_entry_eq]
  generalize (lg_sl ([.ref a0, .ref a1]) ++ List.replicate (5 - (lg_sl ([.ref a0, .ref a1])).length) Slot.unset).toArray = ls at hl ⊢
  have hl : lv_has ls 5 [(0, .ref a0), (1, .ref a1)] := hl
  have hS : va_S (· ∈ g.L) s.heap s.heap [] := va_S.rf
  unfold F_Store_renewPromises at h
  refine lv_aload_n hx hb d_Store_renewPromises_0 rfl (lv_at hl 1 rfl) ?_
  obtain ⟨v1, e1, h⟩ := ob_el h
  refine gg_Si (As := [.ref a1]) (rest := []) ⟨hx, hb, hml, hown, hall⟩ (c_Store_firstNodeBeside l hT o1 e1) (cwS 1 hall (gS m_70 m_71 m_6 m_26) rfl rfl rfl (by decide +kernel) ⟨Nat.le_of_ble_eq_true rfl, Nat.le_of_ble_eq_true rfl⟩) hK hP hS rfl hl.1 rfl (Nat.le_of_ble_eq_true rfl) d_Store_renewPromises_1 (fun H locs hP hS => ?_)
  refine lv_istore_n (lv' := [(2, .int v1), (0, .ref a0), (1, .ref a1)]) hx hb d_Store_renewPromises_4 rfl hl (Nat.le_of_ble_eq_true rfl) rfl (fun ls hl => ?_)
  refine lv_iconst (v := 0) hx hb d_Store_renewPromises_5 (by decide) ?_
  refine lv_istore_n (lv' := [(3, .int (0 : Int32)), (2, .int v1), (0, .ref a0), (1, .ref a1)]) hx hb d_Store_renewPromises_6 rfl hl (Nat.le_of_ble_eq_true rfl) rfl (fun ls hl => ?_)
  refine lv_iload_n hx hb d_Store_renewPromises_7 rfl (lv_at hl 1 rfl) ?_
  refine lv_istore (lv' := [(4, .int v1), (3, .int (0 : Int32)), (2, .int v1), (0, .ref a0), (1, .ref a1)]) hx hb d_Store_renewPromises_8 hl (Nat.le_of_ble_eq_true rfl) rfl (fun ls hl => ?_)
  exact b_Store_renewPromises_10 cx 100 _ _ _ _ _ _ _ _ _ o0 o1 h hP hS (lv_sub hl [3, 4, 2, 1, 0] rfl)
end
