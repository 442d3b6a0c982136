section
abbrev b_Store_agreedEntries : ByteArray := prog_1_method_31_code
def y_Store_agreedEntries : MethodName := ⟨"StampedStore", "agreedEntries", "(LStampedStore$Node;)I"⟩
def w_Store_agreedEntries : List Cond := .code y_Store_agreedEntries b_Store_agreedEntries 3 (some .int) :: w_all
theorem d_Store_agreedEntries_0 : decode b_Store_agreedEntries 0 = .ok (.aload_n 1, 1) := by decide +kernel
theorem d_Store_agreedEntries_1 : decode b_Store_agreedEntries 1 = .ok (.getfield 97, 3) := by decide +kernel
theorem d_Store_agreedEntries_4 : decode b_Store_agreedEntries 4 = .ok (.getfield 116, 3) := by decide +kernel
theorem d_Store_agreedEntries_7 : decode b_Store_agreedEntries 7 = .ok (.iconst 1, 1) := by decide +kernel
theorem d_Store_agreedEntries_8 : decode b_Store_agreedEntries 8 = .ok (.isub, 1) := by decide +kernel
theorem d_Store_agreedEntries_9 : decode b_Store_agreedEntries 9 = .ok (.istore_n 2, 1) := by decide +kernel
theorem d_Store_agreedEntries_10 : decode b_Store_agreedEntries 10 = .ok (.iload_n 2, 1) := by decide +kernel
theorem d_Store_agreedEntries_11 : decode b_Store_agreedEntries 11 = .ok (.ifCond .lt 37, 3) := by decide +kernel
theorem d_Store_agreedEntries_14 : decode b_Store_agreedEntries 14 = .ok (.aload_n 1, 1) := by decide +kernel
theorem d_Store_agreedEntries_15 : decode b_Store_agreedEntries 15 = .ok (.getfield 97, 3) := by decide +kernel
theorem d_Store_agreedEntries_18 : decode b_Store_agreedEntries 18 = .ok (.iload_n 2, 1) := by decide +kernel
theorem d_Store_agreedEntries_19 : decode b_Store_agreedEntries 19 = .ok (.invokevirtual 218, 3) := by decide +kernel
theorem d_Store_agreedEntries_22 : decode b_Store_agreedEntries 22 = .ok (.aload_n 1, 1) := by decide +kernel
theorem d_Store_agreedEntries_23 : decode b_Store_agreedEntries 23 = .ok (.getfield 63, 3) := by decide +kernel
theorem d_Store_agreedEntries_26 : decode b_Store_agreedEntries 26 = .ok (.if_icmp .ne 16, 3) := by decide +kernel
theorem d_Store_agreedEntries_29 : decode b_Store_agreedEntries 29 = .ok (.aload_n 0, 1) := by decide +kernel
theorem d_Store_agreedEntries_30 : decode b_Store_agreedEntries 30 = .ok (.aload_n 1, 1) := by decide +kernel
theorem d_Store_agreedEntries_31 : decode b_Store_agreedEntries 31 = .ok (.iload_n 2, 1) := by decide +kernel
theorem d_Store_agreedEntries_32 : decode b_Store_agreedEntries 32 = .ok (.invokevirtual 221, 3) := by decide +kernel
theorem d_Store_agreedEntries_35 : decode b_Store_agreedEntries 35 = .ok (.ifCond .eq 7, 3) := by decide +kernel
theorem d_Store_agreedEntries_38 : decode b_Store_agreedEntries 38 = .ok (.iload_n 2, 1) := by decide +kernel
theorem d_Store_agreedEntries_39 : decode b_Store_agreedEntries 39 = .ok (.iconst 1, 1) := by decide +kernel
theorem d_Store_agreedEntries_40 : decode b_Store_agreedEntries 40 = .ok (.iadd, 1) := by decide +kernel
theorem d_Store_agreedEntries_41 : decode b_Store_agreedEntries 41 = .ok (.ireturn, 1) := by decide +kernel
theorem d_Store_agreedEntries_42 : decode b_Store_agreedEntries 42 = .ok (.iinc 2 (-1), 3) := by decide +kernel
theorem d_Store_agreedEntries_45 : decode b_Store_agreedEntries 45 = .ok (.goto (-35), 3) := by decide +kernel
theorem d_Store_agreedEntries_48 : decode b_Store_agreedEntries 48 = .ok (.iconst 0, 1) := by decide +kernel
theorem d_Store_agreedEntries_49 : decode b_Store_agreedEntries 49 = .ok (.ireturn, 1) := by decide +kernel
def B_Store_agreedEntries_42 (R : Nat → Nat → Nat) (I : St) (k10 : Nat → Nat → Int32 → Option Int32) (a0 : Nat) (a1 : Nat) (x2 : Int32) : Option Int32 := k10 a0 a1 (x2 + (-1))
set_option maxHeartbeats 4000000 in
set_option maxRecDepth 100000 in
theorem b_Store_agreedEntries_42 {p : Program} {l : Launch} {e : Env} {s : State} {m : MethodId} {args : Array Value} {below : List Frame} {meth : Method} {c : Code} {g : Sg} {R : Nat → Nat → Nat} {I : St} {v : Int32} (cx : Cx p s m args meth c g R R_Store b_Store_agreedEntries 3 (some .int)) {k10 : Nat → Nat → Int32 → Option Int32} (hk10 : ∀ (a0 : Nat) (a1 : Nat) (x2 : Int32) (H : Heap) (locs : List Loc) (ls : Array Slot), okA g 4 0 a0 → okA g 2 0 a1 → k10 a0 a1 x2 = some v → wW g R I H → va_S (· ∈ g.L) s.heap H locs → lv_has ls 3 [(0, .ref a0), (1, .ref a1), (2, .int x2)] → W p l e { frames := 3, cells := 0, slots := 0, locals := 64 } s m args below meth c H locs 0 0 (MQ below (Qi g R v I) args s 0 0 (· ∈ g.L)) (F0 m 10 ls [])) : ∀ (a0 : Nat) (a1 : Nat) (x2 : Int32) (H : Heap) (locs : List Loc) (ls : Array Slot), okA g 4 0 a0 → okA g 2 0 a1 → B_Store_agreedEntries_42 R I k10 a0 a1 x2 = some v → wW g R I H → va_S (· ∈ g.L) s.heap H locs → lv_has ls 3 [(0, .ref a0), (1, .ref a1), (2, .int x2)] → W p l e { frames := 3, cells := 0, slots := 0, locals := 64 } s m args below meth c H locs 0 0 (MQ below (Qi g R v I) args s 0 0 (· ∈ g.L)) (F0 m 42 ls []) := by
  have ⟨hx, hb, hml, hr, hlk, hown, hall, hT, hK⟩ := cx
  intro a0 a1 x2 H locs ls o0 o1 h hP hS hl
  unfold B_Store_agreedEntries_42 at h
  refine lv_iinc (k := 2) (v := (x2 + (-1))) (lv' := [(2, .int (x2 + (-1))), (0, .ref a0), (1, .ref a1)]) hx hb d_Store_agreedEntries_42 hl rfl (by rw [show Int32.ofInt (-1) = (-1 : Int32) from by decide]) (Nat.le_of_ble_eq_true rfl) rfl (fun ls hl => ?_)
  refine lv_goto hx hb d_Store_agreedEntries_45 rfl ?_
  exact hk10 _ _ _ _ _ _ o0 o1 h hP hS (lv_sub hl [1, 2, 0] rfl)
def B_Store_agreedEntries_10 (R : Nat → Nat → Nat) (I : St) : Nat → Nat → Nat → Int32 → Option Int32
  | 0, _, _, _ => none
  | f + 1, a0, a1, x2 => (if x2 < 0 then some (0 : Int32) else (ob (F_Log_epochAt R (R a1 2) x2 I) (fun v19 => (if v19 = (I a1 6) then (ob (F_Store_isInAnotherLog R a0 a1 x2 I) (fun v32 => (if v32 = 0 then B_Store_agreedEntries_42 R I (B_Store_agreedEntries_10 R I f) a0 a1 x2 else some (x2 + (1 : Int32))))) else B_Store_agreedEntries_42 R I (B_Store_agreedEntries_10 R I f) a0 a1 x2))))
set_option maxHeartbeats 4000000 in
set_option maxRecDepth 100000 in
theorem b_Store_agreedEntries_10 {p : Program} {l : Launch} {e : Env} {s : State} {m : MethodId} {args : Array Value} {below : List Frame} {meth : Method} {c : Code} {g : Sg} {R : Nat → Nat → Nat} {I : St} {v : Int32} (cx : Cx p s m args meth c g R R_Store b_Store_agreedEntries 3 (some .int)) (f : Nat) : ∀ (a0 : Nat) (a1 : Nat) (x2 : Int32) (H : Heap) (locs : List Loc) (ls : Array Slot), okA g 4 0 a0 → okA g 2 0 a1 → B_Store_agreedEntries_10 R I f a0 a1 x2 = some v → wW g R I H → va_S (· ∈ g.L) s.heap H locs → lv_has ls 3 [(0, .ref a0), (1, .ref a1), (2, .int x2)] → W p l e { frames := 3, cells := 0, slots := 0, locals := 64 } s m args below meth c H locs 0 0 (MQ below (Qi g R v I) args s 0 0 (· ∈ g.L)) (F0 m 10 ls []) := by
  have ⟨hx, hb, hml, hr, hlk, hown, hall, hT, hK⟩ := cx
  induction f with
  | zero => intro a0 a1 x2 H locs ls o0 o1 h; unfold B_Store_agreedEntries_10 at h; cases h
  | succ f ih =>
    intro a0 a1 x2 H locs ls o0 o1 h hP hS hl
    unfold B_Store_agreedEntries_10 at h
    refine lv_iload_n hx hb d_Store_agreedEntries_10 rfl (lv_at hl 2 rfl) ?_
    refine lv_if_lt hx hb d_Store_agreedEntries_11 rfl (fun hc => ?_) (fun hc => ?_)
    · replace h := i_pos hc h
      refine lv_iconst (v := 0) hx hb d_Store_agreedEntries_48 (by decide) ?_
      obtain rfl := Option.some.inj h
      exact gg_iret hx hb hr hlk hK hP hS d_Store_agreedEntries_49
    · replace h := i_neg hc h
      refine lv_aload_n hx hb d_Store_agreedEntries_14 rfl (lv_at hl 1 rfl) ?_
      refine gg_get (C := R_Node) (T := F_Node) (N := 10) (ci := 2) hx hb hall i_Node hown hK hP o1.1 (wE_2 o1.2) rfl 2 (by decide) (hall _ m_134) (fun _ h9 => h9) rfl d_Store_agreedEntries_15 ?_
      have o_15 : okA g 1 0 (R a1 2) := ty_Node_2 hT o1
      refine lv_iload_n hx hb d_Store_agreedEntries_18 rfl (lv_at hl 2 rfl) ?_
      obtain ⟨v19, e19, h⟩ := ob_el h
      refine gg_Vi (As := [.int x2]) (rest := []) (ci := 1) (C := R_Log) (T := F_Log) (N := 7) ⟨hx, hb, hml, hown, hall⟩ (c_Log_epochAt l hT o_15 e19) (cwV 1 hall (gV m_135 m_126 m_127 m_38 m_124) rfl rfl rfl (by decide +kernel) ⟨Nat.le_of_ble_eq_true rfl, Nat.le_of_ble_eq_true rfl⟩) hK hP hS o_15.1 (wE_1 o_15.2) rfl rfl hl.1 rfl (Nat.le_of_ble_eq_true rfl) d_Store_agreedEntries_19 (fun H locs hP hS => ?_)
      refine lv_aload_n hx hb d_Store_agreedEntries_22 rfl (lv_at hl 1 rfl) ?_
      refine gg_get (C := R_Node) (T := F_Node) (N := 10) (ci := 2) hx hb hall i_Node hown hK hP o1.1 (wE_2 o1.2) rfl 6 (by decide) (hall _ m_107) (fun _ h9 => h9) rfl d_Store_agreedEntries_23 ?_
      refine lv_icmp_ne hx hb d_Store_agreedEntries_26 rfl (fun hc => ?_) (fun hc => ?_)
      · replace h := i_neg hc h
        exact b_Store_agreedEntries_42 cx ih _ _ _ _ _ _ o0 o1 h hP hS (lv_sub hl [0, 1, 2] rfl)
      · replace h := i_pos hc h
        refine lv_aload_n hx hb d_Store_agreedEntries_29 rfl (lv_at hl 0 rfl) ?_
        refine lv_aload_n hx hb d_Store_agreedEntries_30 rfl (lv_at hl 1 rfl) ?_
        refine lv_iload_n hx hb d_Store_agreedEntries_31 rfl (lv_at hl 2 rfl) ?_
        obtain ⟨v32, e32, h⟩ := ob_el h
        refine gg_Vi (As := [.ref a1, .int x2]) (rest := []) (ci := 4) (C := R_Store) (T := F_Store) (N := 4) ⟨hx, hb, hml, hown, hall⟩ (c_Store_isInAnotherLog l hT o0 o1 e32) (cwV 2 hall (gV m_137 m_138 m_139 m_6 m_136) rfl rfl rfl (by decide +kernel) ⟨Nat.le_of_ble_eq_true rfl, Nat.le_of_ble_eq_true rfl⟩) hK hP hS o0.1 (wE_4 o0.2) rfl rfl hl.1 rfl (Nat.le_of_ble_eq_true rfl) d_Store_agreedEntries_32 (fun H locs hP hS => ?_)
        refine lv_if_eq hx hb d_Store_agreedEntries_35 rfl (fun hc => ?_) (fun hc => ?_)
        · replace h := i_pos hc h
          exact b_Store_agreedEntries_42 cx ih _ _ _ _ _ _ o0 o1 h hP hS (lv_sub hl [0, 1, 2] rfl)
        · replace h := i_neg hc h
          refine lv_iload_n hx hb d_Store_agreedEntries_38 rfl (lv_at hl 2 rfl) ?_
          refine lv_iconst (v := 1) hx hb d_Store_agreedEntries_39 (by decide) ?_
          refine lv_iadd hx hb d_Store_agreedEntries_40 ?_
          obtain rfl := Option.some.inj h
          exact gg_iret hx hb hr hlk hK hP hS d_Store_agreedEntries_41
def F_Store_agreedEntries (R : Nat → Nat → Nat) (a0 : Nat) (a1 : Nat) (I : St) : Option Int32 := B_Store_agreedEntries_10 R I 100 a0 a1 ((I (R a1 2) 5) - (1 : Int32))
set_option maxHeartbeats 4000000 in
set_option maxRecDepth 100000 in
theorem c_Store_agreedEntries (l : Launch) {g : Sg} {R : Nat → Nat → Nat} (hT : Ty g R) {a0 : Nat} (o0 : okA g 4 0 a0) {a1 : Nat} (o1 : okA g 2 0 a1) {I : St} {v : Int32} (h : F_Store_agreedEntries R a0 a1 I = some v) : Cti l g R y_Store_agreedEntries w_Store_agreedEntries 3 64 [.ref a0, .ref a1] I v I := by
  unfold Cti
  refine Met.ofW (cc := b_Store_agreedEntries) (maxL := 3) (ret := (some .int)) (by decide) rfl ?_
  intro p e s m args below meth c s₁ B hml hv
  obtain ⟨rfl, hP, hK⟩ := hv
  have hts := atoms_spec (ws := w_Store_agreedEntries) B.pre
  have hall : ∀ w ∈ w_all, w.before _ s = true := fun w hw => hts w (List.mem_cons_of_mem _ hw)
  have hown : s.vm.findClass R_Store = some m.cls := findClass_of_methodNamed B.named
  have hx := B.exec
  have hb := B.bytes
  have hr := B.returns
  have hlk := B.notSynchronized
  have cx : Cx p s m _ meth c g R R_Store b_Store_agreedEntries 3 (some .int) := ⟨hx, hb, hml, hr, hlk, hown, hall, hT, hK⟩
  have hl := lv_entry ([.ref a0, .ref a1]) (n := 3) (Nat.le_of_ble_eq_true rfl)
  rw [lg_entry_eq]
  generalize (lg_sl ([.ref a0, .ref a1]) ++ List.replicate (3 - (lg_sl ([.ref a0, .ref a1])).length) Slot.unset).toArray = ls at hl ⊢
  have hl : lv_has ls 3 [(0, .ref a0), (1, .ref a1)] := hl
  have hS : va_S (· ∈ g.L) s.heap s.heap [] := va_S.rf
  unfold F_Store_agreedEntries at h
  refine lv_aload_n hx hb d_Store_agreedEntries_0 rfl (lv_at hl 1 rfl) ?_
  refine gg_get (C := R_Node) (T := F_Node) (N := 10) (ci := 2) hx hb hall i_Node hown hK hP o1.1 (wE_2 o1.2) rfl 2 (by decide) (hall _ m_134) (fun _ h9 => h9) rfl d_Store_agreedEntries_1 ?_
  have o_1 : okA g 1 0 (R a1 2) := ty_Node_2 hT o1
  refine gg_get (C := R_Log) (T := F_Log) (N := 7) (ci := 1) hx hb hall i_Log hown hK hP o_1.1 (wE_1 o_1.2) rfl 5 (by decide) (hall _ m_140) (fun _ h9 => h9) rfl d_Store_agreedEntries_4 ?_
  refine lv_iconst (v := 1) hx hb d_Store_agreedEntries_7 (by decide) ?_
  refine lv_isub hx hb d_Store_agreedEntries_8 ?_
  refine lv_istore_n (lv' := [(2, .int ((I (R a1 2) 5) - (1 : Int32))), (0, .ref a0), (1, .ref a1)]) hx hb d_Store_agreedEntries_9 rfl hl (Nat.le_of_ble_eq_true rfl) rfl (fun ls hl => ?_)
  exact b_Store_agreedEntries_10 cx 100 _ _ _ _ _ _ o0 o1 h hP hS (lv_sub hl [1, 2, 0] rfl)
abbrev b_Log_learn : ByteArray := prog_3_method_18_code
def y_Log_learn : MethodName := ⟨"StampedStore$Log", "learn", "(I)V"⟩
def w_Log_learn : List Cond := .code y_Log_learn b_Log_learn 2 none :: w_all
theorem d_Log_learn_0 : decode b_Log_learn 0 = .ok (.aload_n 0, 1) := by decide +kernel
theorem d_Log_learn_1 : decode b_Log_learn 1 = .ok (.aload_n 0, 1) := by decide +kernel
theorem d_Log_learn_2 : decode b_Log_learn 2 = .ok (.getfield 39, 3) := by decide +kernel
theorem d_Log_learn_5 : decode b_Log_learn 5 = .ok (.iload_n 1, 1) := by decide +kernel
theorem d_Log_learn_6 : decode b_Log_learn 6 = .ok (.aload_n 0, 1) := by decide +kernel
theorem d_Log_learn_7 : decode b_Log_learn 7 = .ok (.getfield 27, 3) := by decide +kernel
theorem d_Log_learn_10 : decode b_Log_learn 10 = .ok (.invokestatic 62, 3) := by decide +kernel
theorem d_Log_learn_13 : decode b_Log_learn 13 = .ok (.invokestatic 42, 3) := by decide +kernel
theorem d_Log_learn_16 : decode b_Log_learn 16 = .ok (.putfield 39, 3) := by decide +kernel
theorem d_Log_learn_19 : decode b_Log_learn 19 = .ok (.return_, 1) := by decide +kernel
def F_Log_learn (R : Nat → Nat → Nat) (a0 : Nat) (x1 : Int32) (I : St) : Option St := (ap (up2 I a0 6 (imax (I a0 6) (imin x1 (I a0 5)))) (fun I16 => some I16))
set_option maxHeartbeats 4000000 in
set_option maxRecDepth 100000 in
theorem c_Log_learn (l : Launch) {g : Sg} {R : Nat → Nat → Nat} (hT : Ty g R) {a0 : Nat} (o0 : okA g 1 0 a0) {x1 : Int32} {I : St} {J : St} (h : F_Log_learn R a0 x1 I = some J) : Ctv l g R y_Log_learn w_Log_learn 1 22 [.ref a0, .int x1] I J := by
  unfold Ctv
  refine Met.ofW (cc := b_Log_learn) (maxL := 2) (ret := none) (by decide) rfl ?_
  intro p e s m args below meth c s₁ B hml hv
  obtain ⟨rfl, hP, hK⟩ := hv
  have hts := atoms_spec (ws := w_Log_learn) B.pre
  have hall : ∀ w ∈ w_all, w.before _ s = true := fun w hw => hts w (List.mem_cons_of_mem _ hw)
  have hown : s.vm.findClass R_Log = some m.cls := findClass_of_methodNamed B.named
  have hx := B.exec
  have hb := B.bytes
  have hr := B.returns
  have hlk := B.notSynchronized
  have cx : Cx p s m _ meth c g R R_Log b_Log_learn 2 none := ⟨hx, hb, hml, hr, hlk, hown, hall, hT, hK⟩
  have hl := lv_entry ([.ref a0, .int x1]) (n := 2) (Nat.le_of_ble_eq_true rfl)
  rw [lg_entry_eq]
  generalize (lg_sl ([.ref a0, .int x1]) ++ List.replicate (2 - (lg_sl ([.ref a0, .int x1])).length) Slot.unset).toArray = ls at hl ⊢
  have hl : lv_has ls 2 [(0, .ref a0), (1, .int x1)] := hl
  have hS : va_S (· ∈ g.L) s.heap s.heap [] := va_S.rf
  unfold F_Log_learn at h
  refine lv_aload_n hx hb d_Log_learn_0 rfl (lv_at hl 0 rfl) ?_
  refine lv_aload_n hx hb d_Log_learn_1 rfl (lv_at hl 0 rfl) ?_
  refine gg_get (C := R_Log) (T := F_Log) (N := 7) (ci := 1) hx hb hall i_Log hown hK hP o0.1 (wE_1 o0.2) rfl 6 (by decide) (hall _ m_142) (fun _ h9 => h9) rfl d_Log_learn_2 ?_
  refine lv_iload_n hx hb d_Log_learn_5 rfl (lv_at hl 1 rfl) ?_
  refine lv_aload_n hx hb d_Log_learn_6 rfl (lv_at hl 0 rfl) ?_
  refine gg_get (C := R_Log) (T := F_Log) (N := 7) (ci := 1) hx hb hall i_Log hown hK hP o0.1 (wE_1 o0.2) rfl 5 (by decide) (hall _ m_32) (fun _ h9 => h9) rfl d_Log_learn_7 ?_
  refine gg_min hx hb hml hl.1 hown (hall _ m_143) (hall _ m_144) (hall _ m_18) (hall _ m_145) (Nat.le_of_ble_eq_true rfl) (Nat.le_of_ble_eq_true rfl) d_Log_learn_10 ?_
  refine gg_max hx hb hml hl.1 hown (hall _ m_75) (hall _ m_58) (hall _ m_18) (hall _ m_59) (Nat.le_of_ble_eq_true rfl) (Nat.le_of_ble_eq_true rfl) d_Log_learn_13 ?_
  refine gg_put (C := R_Log) (T := F_Log) (N := 7) (ci := 1) (ty := .int) hx hb hall i_Log t_Log t_Log_ok n_Log hown hT.1 hK hP hS o0.1 (wE_1 o0.2) rfl 6 (by decide) (hall _ m_142) (fun _ h9 => h9) rfl (by decide +kernel) rfl rfl (Nat.le_of_ble_eq_true rfl) (ws_Log_6 o0.2) d_Log_learn_16 (fun I16 H locs e16 hP hS => ?_)
  replace h := ap_el e16 h
  obtain rfl := Option.some.inj h
  exact gg_vret hx hb hr hlk hK hP hS d_Log_learn_19
abbrev b_Store_ship : ByteArray := prog_1_method_8_code
def y_Store_ship : MethodName := ⟨"StampedStore", "ship", "(II)I"⟩
def w_Store_ship : List Cond := .code y_Store_ship b_Store_ship 5 (some .int) :: w_all
theorem d_Store_ship_0 : decode b_Store_ship 0 = .ok (.iload_n 1, 1) := by decide +kernel
theorem d_Store_ship_1 : decode b_Store_ship 1 = .ok (.invokestatic 38, 3) := by decide +kernel
theorem d_Store_ship_4 : decode b_Store_ship 4 = .ok (.ifCond .eq 26, 3) := by decide +kernel
theorem d_Store_ship_7 : decode b_Store_ship 7 = .ok (.iload_n 2, 1) := by decide +kernel
theorem d_Store_ship_8 : decode b_Store_ship 8 = .ok (.invokestatic 38, 3) := by decide +kernel
theorem d_Store_ship_11 : decode b_Store_ship 11 = .ok (.ifCond .eq 19, 3) := by decide +kernel
theorem d_Store_ship_14 : decode b_Store_ship 14 = .ok (.iload_n 1, 1) := by decide +kernel
theorem d_Store_ship_15 : decode b_Store_ship 15 = .ok (.iload_n 2, 1) := by decide +kernel
theorem d_Store_ship_16 : decode b_Store_ship 16 = .ok (.if_icmp .eq 14, 3) := by decide +kernel
theorem d_Store_ship_19 : decode b_Store_ship 19 = .ok (.iload_n 1, 1) := by decide +kernel
theorem d_Store_ship_20 : decode b_Store_ship 20 = .ok (.invokestatic 90, 3) := by decide +kernel
theorem d_Store_ship_23 : decode b_Store_ship 23 = .ok (.iload_n 2, 1) := by decide +kernel
theorem d_Store_ship_24 : decode b_Store_ship 24 = .ok (.invokestatic 90, 3) := by decide +kernel
theorem d_Store_ship_27 : decode b_Store_ship 27 = .ok (.if_icmp .eq 5, 3) := by decide +kernel
theorem d_Store_ship_30 : decode b_Store_ship 30 = .ok (.iconst (-1), 1) := by decide +kernel
theorem d_Store_ship_31 : decode b_Store_ship 31 = .ok (.ireturn, 1) := by decide +kernel
theorem d_Store_ship_32 : decode b_Store_ship 32 = .ok (.aload_n 0, 1) := by decide +kernel
theorem d_Store_ship_33 : decode b_Store_ship 33 = .ok (.getfield 11, 3) := by decide +kernel
theorem d_Store_ship_36 : decode b_Store_ship 36 = .ok (.iload_n 1, 1) := by decide +kernel
theorem d_Store_ship_37 : decode b_Store_ship 37 = .ok (.aaload, 1) := by decide +kernel
theorem d_Store_ship_38 : decode b_Store_ship 38 = .ok (.astore_n 3, 1) := by decide +kernel
theorem d_Store_ship_39 : decode b_Store_ship 39 = .ok (.aload_n 0, 1) := by decide +kernel
theorem d_Store_ship_40 : decode b_Store_ship 40 = .ok (.getfield 11, 3) := by decide +kernel
theorem d_Store_ship_43 : decode b_Store_ship 43 = .ok (.iload_n 2, 1) := by decide +kernel
theorem d_Store_ship_44 : decode b_Store_ship 44 = .ok (.aaload, 1) := by decide +kernel
theorem d_Store_ship_45 : decode b_Store_ship 45 = .ok (.astore 4, 2) := by decide +kernel
theorem d_Store_ship_47 : decode b_Store_ship 47 = .ok (.aload_n 3, 1) := by decide +kernel
theorem d_Store_ship_48 : decode b_Store_ship 48 = .ok (.getfield 48, 3) := by decide +kernel
theorem d_Store_ship_51 : decode b_Store_ship 51 = .ok (.ifCond .eq 18, 3) := by decide +kernel
theorem d_Store_ship_54 : decode b_Store_ship 54 = .ok (.aload 4, 2) := by decide +kernel
theorem d_Store_ship_56 : decode b_Store_ship 56 = .ok (.getfield 48, 3) := by decide +kernel
theorem d_Store_ship_59 : decode b_Store_ship 59 = .ok (.ifCond .eq 10, 3) := by decide +kernel
theorem d_Store_ship_62 : decode b_Store_ship 62 = .ok (.aload_n 3, 1) := by decide +kernel
theorem d_Store_ship_63 : decode b_Store_ship 63 = .ok (.getfield 52, 3) := by decide +kernel
theorem d_Store_ship_66 : decode b_Store_ship 66 = .ok (.ifCond .ne 5, 3) := by decide +kernel
theorem d_Store_ship_69 : decode b_Store_ship 69 = .ok (.iconst (-1), 1) := by decide +kernel
theorem d_Store_ship_70 : decode b_Store_ship 70 = .ok (.ireturn, 1) := by decide +kernel
theorem d_Store_ship_71 : decode b_Store_ship 71 = .ok (.aload 4, 2) := by decide +kernel
theorem d_Store_ship_73 : decode b_Store_ship 73 = .ok (.getfield 63, 3) := by decide +kernel
theorem d_Store_ship_76 : decode b_Store_ship 76 = .ok (.aload_n 3, 1) := by decide +kernel
theorem d_Store_ship_77 : decode b_Store_ship 77 = .ok (.getfield 63, 3) := by decide +kernel
theorem d_Store_ship_80 : decode b_Store_ship 80 = .ok (.if_icmp .le 11, 3) := by decide +kernel
theorem d_Store_ship_83 : decode b_Store_ship 83 = .ok (.aload_n 3, 1) := by decide +kernel
theorem d_Store_ship_84 : decode b_Store_ship 84 = .ok (.iconst 0, 1) := by decide +kernel
theorem d_Store_ship_85 : decode b_Store_ship 85 = .ok (.putfield 52, 3) := by decide +kernel
theorem d_Store_ship_88 : decode b_Store_ship 88 = .ok (.bipush (-5), 2) := by decide +kernel
theorem d_Store_ship_90 : decode b_Store_ship 90 = .ok (.ireturn, 1) := by decide +kernel
theorem d_Store_ship_91 : decode b_Store_ship 91 = .ok (.aload 4, 2) := by decide +kernel
theorem d_Store_ship_93 : decode b_Store_ship 93 = .ok (.aload_n 3, 1) := by decide +kernel
theorem d_Store_ship_94 : decode b_Store_ship 94 = .ok (.getfield 63, 3) := by decide +kernel
theorem d_Store_ship_97 : decode b_Store_ship 97 = .ok (.invokevirtual 94, 3) := by decide +kernel
theorem d_Store_ship_100 : decode b_Store_ship 100 = .ok (.aload 4, 2) := by decide +kernel
theorem d_Store_ship_102 : decode b_Store_ship 102 = .ok (.getfield 97, 3) := by decide +kernel
theorem d_Store_ship_105 : decode b_Store_ship 105 = .ok (.aload_n 3, 1) := by decide +kernel
theorem d_Store_ship_106 : decode b_Store_ship 106 = .ok (.getfield 97, 3) := by decide +kernel
theorem d_Store_ship_109 : decode b_Store_ship 109 = .ok (.invokevirtual 101, 3) := by decide +kernel
theorem d_Store_ship_112 : decode b_Store_ship 112 = .ok (.aload_n 3, 1) := by decide +kernel
theorem d_Store_ship_113 : decode b_Store_ship 113 = .ok (.getfield 97, 3) := by decide +kernel
theorem d_Store_ship_116 : decode b_Store_ship 116 = .ok (.aload_n 0, 1) := by decide +kernel
theorem d_Store_ship_117 : decode b_Store_ship 117 = .ok (.aload_n 3, 1) := by decide +kernel
theorem d_Store_ship_118 : decode b_Store_ship 118 = .ok (.invokevirtual 107, 3) := by decide +kernel
theorem d_Store_ship_121 : decode b_Store_ship 121 = .ok (.invokevirtual 110, 3) := by decide +kernel
theorem d_Store_ship_124 : decode b_Store_ship 124 = .ok (.aload 4, 2) := by decide +kernel
theorem d_Store_ship_126 : decode b_Store_ship 126 = .ok (.getfield 97, 3) := by decide +kernel
theorem d_Store_ship_129 : decode b_Store_ship 129 = .ok (.aload_n 3, 1) := by decide +kernel
theorem d_Store_ship_130 : decode b_Store_ship 130 = .ok (.getfield 97, 3) := by decide +kernel
theorem d_Store_ship_133 : decode b_Store_ship 133 = .ok (.getfield 113, 3) := by decide +kernel
theorem d_Store_ship_136 : decode b_Store_ship 136 = .ok (.invokevirtual 110, 3) := by decide +kernel
theorem d_Store_ship_139 : decode b_Store_ship 139 = .ok (.aload 4, 2) := by decide +kernel
theorem d_Store_ship_141 : decode b_Store_ship 141 = .ok (.getfield 97, 3) := by decide +kernel
theorem d_Store_ship_144 : decode b_Store_ship 144 = .ok (.getfield 116, 3) := by decide +kernel
theorem d_Store_ship_147 : decode b_Store_ship 147 = .ok (.ireturn, 1) := by decide +kernel
def B_Store_ship_30 (R : Nat → Nat → Nat) (I : St) : Option (Int32 × St) := some ((-1 : Int32), I)
set_option maxHeartbeats 4000000 in
set_option maxRecDepth 100000 in
theorem b_Store_ship_30 {p : Program} {l : Launch} {e : Env} {s : State} {m : MethodId} {args : Array Value} {below : List Frame} {meth : Method} {c : Code} {g : Sg} {R : Nat → Nat → Nat} {J : St} {v : Int32} (cx : Cx p s m args meth c g R R_Store b_Store_ship 5 (some .int)) : ∀ (I : St) (H : Heap) (locs : List Loc) (ls : Array Slot), B_Store_ship_30 R I = some (v, J) → wW g R I H → va_S (· ∈ g.L) s.heap H locs → lv_has ls 5 [] → W p l e { frames := 4, cells := 0, slots := 0, locals := 86 } s m args below meth c H locs 0 0 (MQ below (Qi g R v J) args s 0 0 (· ∈ g.L)) (F0 m 30 ls []) := by
  have ⟨hx, hb, hml, hr, hlk, hown, hall, hT, hK⟩ := cx
  intro I H locs ls h hP hS hl
  unfold B_Store_ship_30 at h
  refine lv_iconst (v := (-1)) hx hb d_Store_ship_30 (by decide) ?_
  obtain ⟨rfl, rfl⟩ := rt_el h
  exact gg_iret hx hb hr hlk hK hP hS d_Store_ship_31
def B_Store_ship_69 (R : Nat → Nat → Nat) (I : St) : Option (Int32 × St) := some ((-1 : Int32), I)
set_option maxHeartbeats 4000000 in
set_option maxRecDepth 100000 in
theorem b_Store_ship_69 {p : Program} {l : Launch} {e : Env} {s : State} {m : MethodId} {args : Array Value} {below : List Frame} {meth : Method} {c : Code} {g : Sg} {R : Nat → Nat → Nat} {J : St} {v : Int32} (cx : Cx p s m args meth c g R R_Store b_Store_ship 5 (some .int)) : ∀ (I : St) (H : Heap) (locs : List Loc) (ls : Array Slot), B_Store_ship_69 R I = some (v, J) → wW g R I H → va_S (· ∈ g.L) s.heap H locs → lv_has ls 5 [] → W p l e { frames := 4, cells := 0, slots := 0, locals := 86 } s m args below meth c H locs 0 0 (MQ below (Qi g R v J) args s 0 0 (· ∈ g.L)) (F0 m 69 ls []) := by
  have ⟨hx, hb, hml, hr, hlk, hown, hall, hT, hK⟩ := cx
  intro I H locs ls h hP hS hl
  unfold B_Store_ship_69 at h
  refine lv_iconst (v := (-1)) hx hb d_Store_ship_69 (by decide) ?_
  obtain ⟨rfl, rfl⟩ := rt_el h
  exact gg_iret hx hb hr hlk hK hP hS d_Store_ship_70
def F_Store_ship (R : Nat → Nat → Nat) (a0 : Nat) (x1 : Int32) (x2 : Int32) (I : St) : Option (Int32 × St) := (ob (F_Store_isNode R x1 I) (fun v1 => (if v1 = 0 then B_Store_ship_30 R I else (ob (F_Store_isNode R x2 I) (fun v8 => (if v8 = 0 then B_Store_ship_30 R I else (if x1 = x2 then B_Store_ship_30 R I else (ob (F_Store_groupOfNode R x1 I) (fun v20 => (ob (F_Store_groupOfNode R x2 I) (fun v24 => (if v20 = v24 then (chk x1 6 ((chk x2 6 ((if (I (R (R a0 1) x1.toNatClampNeg) 3) = 0 then B_Store_ship_69 R I else (if (I (R (R a0 1) x2.toNatClampNeg) 3) = 0 then B_Store_ship_69 R I else (if (I (R (R a0 1) x1.toNatClampNeg) 4) = 0 then B_Store_ship_69 R I else (if (I (R (R a0 1) x2.toNatClampNeg) 6) ≤ (I (R (R a0 1) x1.toNatClampNeg) 6) then (ob (F_Node_takeEpoch R (R (R a0 1) x2.toNatClampNeg) (I (R (R a0 1) x1.toNatClampNeg) 6) I) (fun I97 => (ob (F_Log_follow R (R (R (R a0 1) x2.toNatClampNeg) 2) (R (R (R a0 1) x1.toNatClampNeg) 2) I97) (fun I109 => (ob (F_Store_agreedEntries R a0 (R (R a0 1) x1.toNatClampNeg) I109) (fun v118 => (ob (F_Log_learn R (R (R (R a0 1) x1.toNatClampNeg) 2) v118 I109) (fun I121 => (ob (F_Log_learn R (R (R (R a0 1) x2.toNatClampNeg) 2) (I121 (R (R (R a0 1) x1.toNatClampNeg) 2) 6) I121) (fun I136 => some ((I136 (R (R (R a0 1) x2.toNatClampNeg) 2) 5), I136))))))))))) else (ap (up2 I (R (R a0 1) x1.toNatClampNeg) 4 (0 : Int32)) (fun I85 => some ((-5 : Int32), I85))))))))))) else B_Store_ship_30 R I))))))))))))
set_option maxHeartbeats 4000000 in
set_option maxRecDepth 100000 in
theorem c_Store_ship (l : Launch) {g : Sg} {R : Nat → Nat → Nat} (hT : Ty g R) {a0 : Nat} (o0 : okA g 4 0 a0) {x1 : Int32} {x2 : Int32} {I : St} {J : St} {v : Int32} (h : F_Store_ship R a0 x1 x2 I = some (v, J)) : Cti l g R y_Store_ship w_Store_ship 4 86 [.ref a0, .int x1, .int x2] I v J := by
  unfold Cti
  refine Met.ofW (cc := b_Store_ship) (maxL := 5) (ret := (some .int)) (by decide) rfl ?_
  intro p e s m args below meth c s₁ B hml hv
  obtain ⟨rfl, hP, hK⟩ := hv
  have hts := atoms_spec (ws := w_Store_ship) B.pre
  have hall : ∀ w ∈ w_all, w.before _ s = true := fun w hw => hts w (List.mem_cons_of_mem _ hw)
  have hown : s.vm.findClass R_Store = some m.cls := findClass_of_methodNamed B.named
  have hx := B.exec
  have hb := B.bytes
  have hr := B.returns
  have hlk := B.notSynchronized
  have cx : Cx p s m _ meth c g R R_Store b_Store_ship 5 (some .int) := ⟨hx, hb, hml, hr, hlk, hown, hall, hT, hK⟩
  have hl := lv_entry ([.ref a0, .int x1, .int x2]) (n := 5) (Nat.le_of_ble_eq_true rfl)
  rw [lg_entry_eq]
  generalize (lg_sl ([.ref a0, .int x1, .int x2]) ++ List.replicate (5 - (lg_sl ([.ref a0, .int x1, .int x2])).length) Slot.unset).toArray = ls at hl ⊢
  have hl : lv_has ls 5 [(0, .ref a0), (1, .int x1), (2, .int x2)] := hl
  have hS : va_S (· ∈ g.L) s.heap s.heap [] := va_S.rf
  unfold F_Store_ship at h
  refine lv_iload_n hx hb d_Store_ship_0 rfl (lv_at hl 1 rfl) ?_
  obtain ⟨v1, e1, h⟩ := ob_el h
  refine gg_Si (As := [.int x1]) (rest := []) ⟨hx, hb, hml, hown, hall⟩ (c_Store_isNode l hT e1) (cwS 1 hall (gS m_4 m_5 m_6 m_3) rfl rfl rfl (by decide +kernel) ⟨Nat.le_of_ble_eq_true rfl, Nat.le_of_ble_eq_true rfl⟩) hK hP hS rfl hl.1 rfl (Nat.le_of_ble_eq_true rfl) d_Store_ship_1 (fun H locs hP hS => ?_)
  refine lv_if_eq hx hb d_Store_ship_4 rfl (fun hc => ?_) (fun hc => ?_)
  · replace h := i_pos hc h
    exact b_Store_ship_30 cx _ _ _ _ h hP hS (lv_sub hl [] rfl)
  · replace h := i_neg hc h
    refine lv_iload_n hx hb d_Store_ship_7 rfl (lv_at hl 2 rfl) ?_
    obtain ⟨v8, e8, h⟩ := ob_el h
    refine gg_Si (As := [.int x2]) (rest := []) ⟨hx, hb, hml, hown, hall⟩ (c_Store_isNode l hT e8) (cwS 1 hall (gS m_4 m_5 m_6 m_3) rfl rfl rfl (by decide +kernel) ⟨Nat.le_of_ble_eq_true rfl, Nat.le_of_ble_eq_true rfl⟩) hK hP hS rfl hl.1 rfl (Nat.le_of_ble_eq_true rfl) d_Store_ship_8 (fun H locs hP hS => ?_)
    refine lv_if_eq hx hb d_Store_ship_11 rfl (fun hc => ?_) (fun hc => ?_)
    · replace h := i_pos hc h
      exact b_Store_ship_30 cx _ _ _ _ h hP hS (lv_sub hl [] rfl)
    · replace h := i_neg hc h
      refine lv_iload_n hx hb d_Store_ship_14 rfl (lv_at hl 1 rfl) ?_
      refine lv_iload_n hx hb d_Store_ship_15 rfl (lv_at hl 2 rfl) ?_
      refine lv_icmp_eq hx hb d_Store_ship_16 rfl (fun hc => ?_) (fun hc => ?_)
      · replace h := i_pos hc h
        exact b_Store_ship_30 cx _ _ _ _ h hP hS (lv_sub hl [] rfl)
      · replace h := i_neg hc h
        refine lv_iload_n hx hb d_Store_ship_19 rfl (lv_at hl 1 rfl) ?_
        obtain ⟨v20, e20, h⟩ := ob_el h
        refine gg_Si (As := [.int x1]) (rest := []) ⟨hx, hb, hml, hown, hall⟩ (c_Store_groupOfNode l hT e20) (cwS 1 hall (gS m_24 m_25 m_6 m_22) rfl rfl rfl (by decide +kernel) ⟨Nat.le_of_ble_eq_true rfl, Nat.le_of_ble_eq_true rfl⟩) hK hP hS rfl hl.1 rfl (Nat.le_of_ble_eq_true rfl) d_Store_ship_20 (fun H locs hP hS => ?_)
        refine lv_iload_n hx hb d_Store_ship_23 rfl (lv_at hl 2 rfl) ?_
        obtain ⟨v24, e24, h⟩ := ob_el h
        refine gg_Si (As := [.int x2]) (rest := [.int v20]) ⟨hx, hb, hml, hown, hall⟩ (c_Store_groupOfNode l hT e24) (cwS 1 hall (gS m_24 m_25 m_6 m_22) rfl rfl rfl (by decide +kernel) ⟨Nat.le_of_ble_eq_true rfl, Nat.le_of_ble_eq_true rfl⟩) hK hP hS rfl hl.1 rfl (Nat.le_of_ble_eq_true rfl) d_Store_ship_24 (fun H locs hP hS => ?_)
        refine lv_icmp_eq hx hb d_Store_ship_27 rfl (fun hc => ?_) (fun hc => ?_)
        · replace h := i_pos hc h
          refine lv_aload_n hx hb d_Store_ship_32 rfl (lv_at hl 0 rfl) ?_
          refine gg_get (C := R_Store) (T := F_Store) (N := 4) (ci := 4) hx hb hall i_Store hown hK hP o0.1 (wE_4 o0.2) rfl 1 (by decide) (hall _ m_8) (fun _ h9 => h9) rfl d_Store_ship_33 ?_
          have o_33 : okA g 8 6 (R a0 1) := ty_Store_1 hT o0
          refine lv_iload_n hx hb d_Store_ship_36 rfl (lv_at hl 1 rfl) ?_
          obtain ⟨hi37, h⟩ := chk_el h
          refine gg_nald hx hb hK hP o_33 hi37 d_Store_ship_37 ?_
          have o_37 : okA g 2 0 (R (R a0 1) x1.toNatClampNeg) := ty_8 hT o_33 _
          refine lv_astore_n (lv' := [(3, .ref (R (R a0 1) x1.toNatClampNeg)), (0, .ref a0), (1, .int x1), (2, .int x2)]) hx hb d_Store_ship_38 rfl hl (Nat.le_of_ble_eq_true rfl) rfl (fun ls hl => ?_)
          refine lv_aload_n hx hb d_Store_ship_39 rfl (lv_at hl 1 rfl) ?_
          refine gg_get (C := R_Store) (T := F_Store) (N := 4) (ci := 4) hx hb hall i_Store hown hK hP o0.1 (wE_4 o0.2) rfl 1 (by decide) (hall _ m_8) (fun _ h9 => h9) rfl d_Store_ship_40 ?_
          have o_40 : okA g 8 6 (R a0 1) := ty_Store_1 hT o0
          refine lv_iload_n hx hb d_Store_ship_43 rfl (lv_at hl 3 rfl) ?_
          obtain ⟨hi44, h⟩ := chk_el h
          refine gg_nald hx hb hK hP o_40 hi44 d_Store_ship_44 ?_
          have o_44 : okA g 2 0 (R (R a0 1) x2.toNatClampNeg) := ty_8 hT o_40 _
          refine lv_astore (lv' := [(4, .ref (R (R a0 1) x2.toNatClampNeg)), (3, .ref (R (R a0 1) x1.toNatClampNeg)), (0, .ref a0), (1, .int x1), (2, .int x2)]) hx hb d_Store_ship_45 hl (Nat.le_of_ble_eq_true rfl) rfl (fun ls hl => ?_)
          refine lv_aload_n hx hb d_Store_ship_47 rfl (lv_at hl 1 rfl) ?_
          refine gg_get (C := R_Node) (T := F_Node) (N := 10) (ci := 2) hx hb hall i_Node hown hK hP o_37.1 (wE_2 o_37.2) rfl 3 (by decide) (hall _ m_11) (fun _ h9 => h9) rfl d_Store_ship_48 ?_
          refine lv_if_eq hx hb d_Store_ship_51 rfl (fun hc => ?_) (fun hc => ?_)
          · replace h := i_pos hc h
            exact b_Store_ship_69 cx _ _ _ _ h hP hS (lv_sub hl [] rfl)
          · replace h := i_neg hc h
            refine lv_aload hx hb d_Store_ship_54 (lv_at hl 0 rfl) ?_
            refine gg_get (C := R_Node) (T := F_Node) (N := 10) (ci := 2) hx hb hall i_Node hown hK hP o_44.1 (wE_2 o_44.2) rfl 3 (by decide) (hall _ m_11) (fun _ h9 => h9) rfl d_Store_ship_56 ?_
            refine lv_if_eq hx hb d_Store_ship_59 rfl (fun hc => ?_) (fun hc => ?_)
            · replace h := i_pos hc h
              exact b_Store_ship_69 cx _ _ _ _ h hP hS (lv_sub hl [] rfl)
            · replace h := i_neg hc h
              refine lv_aload_n hx hb d_Store_ship_62 rfl (lv_at hl 1 rfl) ?_
              refine gg_get (C := R_Node) (T := F_Node) (N := 10) (ci := 2) hx hb hall i_Node hown hK hP o_37.1 (wE_2 o_37.2) rfl 4 (by decide) (hall _ m_12) (fun _ h9 => h9) rfl d_Store_ship_63 ?_
              refine lv_if_ne hx hb d_Store_ship_66 rfl (fun hc => ?_) (fun hc => ?_)
              · replace h := i_neg hc h
                refine lv_aload hx hb d_Store_ship_71 (lv_at hl 0 rfl) ?_
                refine gg_get (C := R_Node) (T := F_Node) (N := 10) (ci := 2) hx hb hall i_Node hown hK hP o_44.1 (wE_2 o_44.2) rfl 6 (by decide) (hall _ m_107) (fun _ h9 => h9) rfl d_Store_ship_73 ?_
                refine lv_aload_n hx hb d_Store_ship_76 rfl (lv_at hl 1 rfl) ?_
                refine gg_get (C := R_Node) (T := F_Node) (N := 10) (ci := 2) hx hb hall i_Node hown hK hP o_37.1 (wE_2 o_37.2) rfl 6 (by decide) (hall _ m_107) (fun _ h9 => h9) rfl d_Store_ship_77 ?_
                refine lv_icmp_le hx hb d_Store_ship_80 rfl (fun hc => ?_) (fun hc => ?_)
                · replace h := i_pos hc h
                  refine lv_aload hx hb d_Store_ship_91 (lv_at hl 0 rfl) ?_
                  refine lv_aload_n hx hb d_Store_ship_93 rfl (lv_at hl 1 rfl) ?_
                  refine gg_get (C := R_Node) (T := F_Node) (N := 10) (ci := 2) hx hb hall i_Node hown hK hP o_37.1 (wE_2 o_37.2) rfl 6 (by decide) (hall _ m_107) (fun _ h9 => h9) rfl d_Store_ship_94 ?_
                  obtain ⟨I97, e97, h⟩ := ob_el h
                  refine gg_Vv (As := [.int (I (R (R a0 1) x1.toNatClampNeg) 6)]) (rest := []) (ci := 2) (C := R_Node) (T := F_Node) (N := 10) ⟨hx, hb, hml, hown, hall⟩ (c_Node_takeEpoch l hT o_44 e97) (cwV 1 hall (gV m_64 m_65 m_66 m_48 m_52) rfl rfl rfl (by decide +kernel) ⟨Nat.le_of_ble_eq_true rfl, Nat.le_of_ble_eq_true rfl⟩) hK hP hS o_44.1 (wE_2 o_44.2) rfl rfl hl.1 rfl (Nat.le_of_ble_eq_true rfl) d_Store_ship_97 (fun H locs hP hS => ?_)
                  refine lv_aload hx hb d_Store_ship_100 (lv_at hl 0 rfl) ?_
                  refine gg_get (C := R_Node) (T := F_Node) (N := 10) (ci := 2) hx hb hall i_Node hown hK hP o_44.1 (wE_2 o_44.2) rfl 2 (by decide) (hall _ m_134) (fun _ h9 => h9) rfl d_Store_ship_102 ?_
                  have o_102 : okA g 1 0 (R (R (R a0 1) x2.toNatClampNeg) 2) := ty_Node_2 hT o_44
                  refine lv_aload_n hx hb d_Store_ship_105 rfl (lv_at hl 1 rfl) ?_
                  refine gg_get (C := R_Node) (T := F_Node) (N := 10) (ci := 2) hx hb hall i_Node hown hK hP o_37.1 (wE_2 o_37.2) rfl 2 (by decide) (hall _ m_134) (fun _ h9 => h9) rfl d_Store_ship_106 ?_
                  have o_106 : okA g 1 0 (R (R (R a0 1) x1.toNatClampNeg) 2) := ty_Node_2 hT o_37
                  obtain ⟨I109, e109, h⟩ := ob_el h
                  refine gg_Vv (As := [.ref (R (R (R a0 1) x1.toNatClampNeg) 2)]) (rest := []) (ci := 1) (C := R_Log) (T := F_Log) (N := 7) ⟨hx, hb, hml, hown, hall⟩ (c_Log_follow l hT o_102 o_106 e109) (cwV 1 hall (gV m_147 m_148 m_149 m_38 m_133) rfl rfl rfl (by decide +kernel) ⟨Nat.le_of_ble_eq_true rfl, Nat.le_of_ble_eq_true rfl⟩) hK hP hS o_102.1 (wE_1 o_102.2) rfl rfl hl.1 rfl (Nat.le_of_ble_eq_true rfl) d_Store_ship_109 (fun H locs hP hS => ?_)
                  refine lv_aload_n hx hb d_Store_ship_112 rfl (lv_at hl 1 rfl) ?_
                  refine gg_get (C := R_Node) (T := F_Node) (N := 10) (ci := 2) hx hb hall i_Node hown hK hP o_37.1 (wE_2 o_37.2) rfl 2 (by decide) (hall _ m_134) (fun _ h9 => h9) rfl d_Store_ship_113 ?_
                  have o_113 : okA g 1 0 (R (R (R a0 1) x1.toNatClampNeg) 2) := ty_Node_2 hT o_37
                  refine lv_aload_n hx hb d_Store_ship_116 rfl (lv_at hl 2 rfl) ?_
                  refine lv_aload_n hx hb d_Store_ship_117 rfl (lv_at hl 1 rfl) ?_
                  obtain ⟨v118, e118, h⟩ := ob_el h
                  refine gg_Vi (As := [.ref (R (R a0 1) x1.toNatClampNeg)]) (rest := [.ref (R (R (R a0 1) x1.toNatClampNeg) 2)]) (ci := 4) (C := R_Store) (T := F_Store) (N := 4) ⟨hx, hb, hml, hown, hall⟩ (c_Store_agreedEntries l hT o0 o_37 e118) (cwV 1 hall (gV m_150 m_151 m_152 m_6 m_141) rfl rfl rfl (by decide +kernel) ⟨Nat.le_of_ble_eq_true rfl, Nat.le_of_ble_eq_true rfl⟩) hK hP hS o0.1 (wE_4 o0.2) rfl rfl hl.1 rfl (Nat.le_of_ble_eq_true rfl) d_Store_ship_118 (fun H locs hP hS => ?_)
                  obtain ⟨I121, e121, h⟩ := ob_el h
                  refine gg_Vv (As := [.int v118]) (rest := []) (ci := 1) (C := R_Log) (T := F_Log) (N := 7) ⟨hx, hb, hml, hown, hall⟩ (c_Log_learn l hT o_113 e121) (cwV 1 hall (gV m_153 m_154 m_155 m_38 m_146) rfl rfl rfl (by decide +kernel) ⟨Nat.le_of_ble_eq_true rfl, Nat.le_of_ble_eq_true rfl⟩) hK hP hS o_113.1 (wE_1 o_113.2) rfl rfl hl.1 rfl (Nat.le_of_ble_eq_true rfl) d_Store_ship_121 (fun H locs hP hS => ?_)
                  refine lv_aload hx hb d_Store_ship_124 (lv_at hl 0 rfl) ?_
                  refine gg_get (C := R_Node) (T := F_Node) (N := 10) (ci := 2) hx hb hall i_Node hown hK hP o_44.1 (wE_2 o_44.2) rfl 2 (by decide) (hall _ m_134) (fun _ h9 => h9) rfl d_Store_ship_126 ?_
                  have o_126 : okA g 1 0 (R (R (R a0 1) x2.toNatClampNeg) 2) := ty_Node_2 hT o_44
                  refine lv_aload_n hx hb d_Store_ship_129 rfl (lv_at hl 1 rfl) ?_
                  refine gg_get (C := R_Node) (T := F_Node) (N := 10) (ci := 2) hx hb hall i_Node hown hK hP o_37.1 (wE_2 o_37.2) rfl 2 (by decide) (hall _ m_134) (fun _ h9 => h9) rfl d_Store_ship_130 ?_
                  have o_130 : okA g 1 0 (R (R (R a0 1) x1.toNatClampNeg) 2) := ty_Node_2 hT o_37
                  refine gg_get (C := R_Log) (T := F_Log) (N := 7) (ci := 1) hx hb hall i_Log hown hK hP o_130.1 (wE_1 o_130.2) rfl 6 (by decide) (hall _ m_156) (fun _ h9 => h9) rfl d_Store_ship_133 ?_
                  obtain ⟨I136, e136, h⟩ := ob_el h
                  refine gg_Vv (As := [.int (I121 (R (R (R a0 1) x1.toNatClampNeg) 2) 6)]) (rest := []) (ci := 1) (C := R_Log) (T := F_Log) (N := 7) ⟨hx, hb, hml, hown, hall⟩ (c_Log_learn l hT o_126 e136) (cwV 1 hall (gV m_153 m_154 m_155 m_38 m_146) rfl rfl rfl (by decide +kernel) ⟨Nat.le_of_ble_eq_true rfl, Nat.le_of_ble_eq_true rfl⟩) hK hP hS o_126.1 (wE_1 o_126.2) rfl rfl hl.1 rfl (Nat.le_of_ble_eq_true rfl) d_Store_ship_136 (fun H locs hP hS => ?_)
                  refine lv_aload hx hb d_Store_ship_139 (lv_at hl 0 rfl) ?_
                  refine gg_get (C := R_Node) (T := F_Node) (N := 10) (ci := 2) hx hb hall i_Node hown hK hP o_44.1 (wE_2 o_44.2) rfl 2 (by decide) (hall _ m_134) (fun _ h9 => h9) rfl d_Store_ship_141 ?_
                  have o_141 : okA g 1 0 (R (R (R a0 1) x2.toNatClampNeg) 2) := ty_Node_2 hT o_44
                  refine gg_get (C := R_Log) (T := F_Log) (N := 7) (ci := 1) hx hb hall i_Log hown hK hP o_141.1 (wE_1 o_141.2) rfl 5 (by decide) (hall _ m_140) (fun _ h9 => h9) rfl d_Store_ship_144 ?_
                  obtain ⟨rfl, rfl⟩ := rt_el h
                  exact gg_iret hx hb hr hlk hK hP hS d_Store_ship_147
                · replace h := i_neg hc h
                  refine lv_aload_n hx hb d_Store_ship_83 rfl (lv_at hl 1 rfl) ?_
                  refine lv_iconst (v := 0) hx hb d_Store_ship_84 (by decide) ?_
                  refine gg_put (C := R_Node) (T := F_Node) (N := 10) (ci := 2) (ty := .boolean) hx hb hall i_Node t_Node t_Node_ok n_Node hown hT.1 hK hP hS o_37.1 (wE_2 o_37.2) rfl 4 (by decide) (hall _ m_12) (fun _ h9 => h9) rfl (by decide +kernel) rfl rfl (Nat.le_of_ble_eq_true rfl) (ws_Node_4 o_37.2) d_Store_ship_85 (fun I85 H locs e85 hP hS => ?_)
                  replace h := ap_el e85 h
                  refine lv_bipush (v := (-5)) hx hb d_Store_ship_88 (by decide) ?_
                  obtain ⟨rfl, rfl⟩ := rt_el h
                  exact gg_iret hx hb hr hlk hK hP hS d_Store_ship_90
              · replace h := i_pos hc h
                exact b_Store_ship_69 cx _ _ _ _ h hP hS (lv_sub hl [] rfl)
        · replace h := i_neg hc h
          exact b_Store_ship_30 cx _ _ _ _ h hP hS (lv_sub hl [] rfl)
abbrev b_Store_begin : ByteArray := prog_1_method_9_code
def y_Store_begin : MethodName := ⟨"StampedStore", "begin", "()I"⟩
def w_Store_begin : List Cond := .code y_Store_begin b_Store_begin 1 (some .int) :: w_all
theorem d_Store_begin_0 : decode b_Store_begin 0 = .ok (.aload_n 0, 1) := by decide +kernel
theorem d_Store_begin_1 : decode b_Store_begin 1 = .ok (.getfield 119, 3) := by decide +kernel
theorem d_Store_begin_4 : decode b_Store_begin 4 = .ok (.bipush 16, 2) := by decide +kernel
theorem d_Store_begin_6 : decode b_Store_begin 6 = .ok (.if_icmp .lt 5, 3) := by decide +kernel
theorem d_Store_begin_9 : decode b_Store_begin 9 = .ok (.iconst (-1), 1) := by decide +kernel
theorem d_Store_begin_10 : decode b_Store_begin 10 = .ok (.ireturn, 1) := by decide +kernel
theorem d_Store_begin_11 : decode b_Store_begin 11 = .ok (.aload_n 0, 1) := by decide +kernel
theorem d_Store_begin_12 : decode b_Store_begin 12 = .ok (.dup, 1) := by decide +kernel
theorem d_Store_begin_13 : decode b_Store_begin 13 = .ok (.getfield 119, 3) := by decide +kernel
theorem d_Store_begin_16 : decode b_Store_begin 16 = .ok (.iconst 1, 1) := by decide +kernel
theorem d_Store_begin_17 : decode b_Store_begin 17 = .ok (.iadd, 1) := by decide +kernel
theorem d_Store_begin_18 : decode b_Store_begin 18 = .ok (.putfield 119, 3) := by decide +kernel
theorem d_Store_begin_21 : decode b_Store_begin 21 = .ok (.aload_n 0, 1) := by decide +kernel
theorem d_Store_begin_22 : decode b_Store_begin 22 = .ok (.getfield 119, 3) := by decide +kernel
theorem d_Store_begin_25 : decode b_Store_begin 25 = .ok (.iconst 1, 1) := by decide +kernel
theorem d_Store_begin_26 : decode b_Store_begin 26 = .ok (.isub, 1) := by decide +kernel
theorem d_Store_begin_27 : decode b_Store_begin 27 = .ok (.ireturn, 1) := by decide +kernel
def F_Store_begin (R : Nat → Nat → Nat) (a0 : Nat) (I : St) : Option (Int32 × St) := (if (I a0 3) < (16 : Int32) then (ap (up2 I a0 3 ((I a0 3) + (1 : Int32))) (fun I18 => some (((I18 a0 3) - (1 : Int32)), I18))) else some ((-1 : Int32), I))
set_option maxHeartbeats 4000000 in
set_option maxRecDepth 100000 in
theorem c_Store_begin (l : Launch) {g : Sg} {R : Nat → Nat → Nat} (hT : Ty g R) {a0 : Nat} (o0 : okA g 4 0 a0) {I : St} {J : St} {v : Int32} (h : F_Store_begin R a0 I = some (v, J)) : Cti l g R y_Store_begin w_Store_begin 0 0 [.ref a0] I v J := by
  unfold Cti
  refine Met.ofW (cc := b_Store_begin) (maxL := 1) (ret := (some .int)) (by decide) rfl ?_
  intro p e s m args below meth c s₁ B hml hv
  obtain ⟨rfl, hP, hK⟩ := hv
  have hts := atoms_spec (ws := w_Store_begin) B.pre
  have hall : ∀ w ∈ w_all, w.before _ s = true := fun w hw => hts w (List.mem_cons_of_mem _ hw)
  have hown : s.vm.findClass R_Store = some m.cls := findClass_of_methodNamed B.named
  have hx := B.exec
  have hb := B.bytes
  have hr := B.returns
  have hlk := B.notSynchronized
  have cx : Cx p s m _ meth c g R R_Store b_Store_begin 1 (some .int) := ⟨hx, hb, hml, hr, hlk, hown, hall, hT, hK⟩
  have hl := lv_entry ([.ref a0]) (n := 1) (Nat.le_of_ble_eq_true rfl)
  rw [lg_entry_eq]
  generalize (lg_sl ([.ref a0]) ++ List.replicate (1 - (lg_sl ([.ref a0])).length) Slot.unset).toArray = ls at hl ⊢
  have hl : lv_has ls 1 [(0, .ref a0)] := hl
  have hS : va_S (· ∈ g.L) s.heap s.heap [] := va_S.rf
  unfold F_Store_begin at h
  refine lv_aload_n hx hb d_Store_begin_0 rfl (lv_at hl 0 rfl) ?_
  refine gg_get (C := R_Store) (T := F_Store) (N := 4) (ci := 4) hx hb hall i_Store hown hK hP o0.1 (wE_4 o0.2) rfl 3 (by decide) (hall _ m_158) (fun _ h9 => h9) rfl d_Store_begin_1 ?_
  refine lv_bipush (v := 16) hx hb d_Store_begin_4 (by decide) ?_
  refine lv_icmp_lt hx hb d_Store_begin_6 rfl (fun hc => ?_) (fun hc => ?_)
  · replace h := i_pos hc h
    refine lv_aload_n hx hb d_Store_begin_11 rfl (lv_at hl 0 rfl) ?_
    refine lv_dup hx hb d_Store_begin_12 rfl ?_
    refine gg_get (C := R_Store) (T := F_Store) (N := 4) (ci := 4) hx hb hall i_Store hown hK hP o0.1 (wE_4 o0.2) rfl 3 (by decide) (hall _ m_158) (fun _ h9 => h9) rfl d_Store_begin_13 ?_
    refine lv_iconst (v := 1) hx hb d_Store_begin_16 (by decide) ?_
    refine lv_iadd hx hb d_Store_begin_17 ?_
    refine gg_put (C := R_Store) (T := F_Store) (N := 4) (ci := 4) (ty := .int) hx hb hall i_Store t_Store t_Store_ok n_Store hown hT.1 hK hP hS o0.1 (wE_4 o0.2) rfl 3 (by decide) (hall _ m_158) (fun _ h9 => h9) rfl (by decide +kernel) rfl rfl (Nat.le_of_ble_eq_true rfl) (ws_Store_3 o0.2) d_Store_begin_18 (fun I18 H locs e18 hP hS => ?_)
    replace h := ap_el e18 h
    refine lv_aload_n hx hb d_Store_begin_21 rfl (lv_at hl 0 rfl) ?_
    refine gg_get (C := R_Store) (T := F_Store) (N := 4) (ci := 4) hx hb hall i_Store hown hK hP o0.1 (wE_4 o0.2) rfl 3 (by decide) (hall _ m_158) (fun _ h9 => h9) rfl d_Store_begin_22 ?_
    refine lv_iconst (v := 1) hx hb d_Store_begin_25 (by decide) ?_
    refine lv_isub hx hb d_Store_begin_26 ?_
    obtain ⟨rfl, rfl⟩ := rt_el h
    exact gg_iret hx hb hr hlk hK hP hS d_Store_begin_27
  · replace h := i_neg hc h
    refine lv_iconst (v := (-1)) hx hb d_Store_begin_9 (by decide) ?_
    obtain ⟨rfl, rfl⟩ := rt_el h
    exact gg_iret hx hb hr hlk hK hP hS d_Store_begin_10
abbrev b_Store_isTransaction : ByteArray := prog_1_method_24_code
def y_Store_isTransaction : MethodName := ⟨"StampedStore", "isTransaction", "(I)Z"⟩
def w_Store_isTransaction : List Cond := .code y_Store_isTransaction b_Store_isTransaction 2 (some .boolean) :: w_all
theorem d_Store_isTransaction_0 : decode b_Store_isTransaction 0 = .ok (.iload_n 1, 1) := by decide +kernel
theorem d_Store_isTransaction_1 : decode b_Store_isTransaction 1 = .ok (.ifCond .lt 15, 3) := by decide +kernel
theorem d_Store_isTransaction_4 : decode b_Store_isTransaction 4 = .ok (.iload_n 1, 1) := by decide +kernel
theorem d_Store_isTransaction_5 : decode b_Store_isTransaction 5 = .ok (.aload_n 0, 1) := by decide +kernel
theorem d_Store_isTransaction_6 : decode b_Store_isTransaction 6 = .ok (.getfield 119, 3) := by decide +kernel
theorem d_Store_isTransaction_9 : decode b_Store_isTransaction 9 = .ok (.if_icmp .ge 7, 3) := by decide +kernel
theorem d_Store_isTransaction_12 : decode b_Store_isTransaction 12 = .ok (.iconst 1, 1) := by decide +kernel
theorem d_Store_isTransaction_13 : decode b_Store_isTransaction 13 = .ok (.goto 4, 3) := by decide +kernel
theorem d_Store_isTransaction_16 : decode b_Store_isTransaction 16 = .ok (.iconst 0, 1) := by decide +kernel
theorem d_Store_isTransaction_17 : decode b_Store_isTransaction 17 = .ok (.ireturn, 1) := by decide +kernel
def B_Store_isTransaction_16 (R : Nat → Nat → Nat) (I : St) : Option Int32 := some (0 : Int32)
set_option maxHeartbeats 4000000 in
set_option maxRecDepth 100000 in
theorem b_Store_isTransaction_16 {p : Program} {l : Launch} {e : Env} {s : State} {m : MethodId} {args : Array Value} {below : List Frame} {meth : Method} {c : Code} {g : Sg} {R : Nat → Nat → Nat} {I : St} {v : Int32} (cx : Cx p s m args meth c g R R_Store b_Store_isTransaction 2 (some .boolean)) : ∀ (H : Heap) (locs : List Loc) (ls : Array Slot), B_Store_isTransaction_16 R I = some v → wW g R I H → va_S (· ∈ g.L) s.heap H locs → lv_has ls 2 [] → W p l e { frames := 0, cells := 0, slots := 0, locals := 0 } s m args below meth c H locs 0 0 (MQ below (Qi g R v I) args s 0 0 (· ∈ g.L)) (F0 m 16 ls []) := by
  have ⟨hx, hb, hml, hr, hlk, hown, hall, hT, hK⟩ := cx
  intro H locs ls h hP hS hl
  unfold B_Store_isTransaction_16 at h
  refine lv_iconst (v := 0) hx hb d_Store_isTransaction_16 (by decide) ?_
  obtain rfl := Option.some.inj h
  exact gg_zret hx hb hr hlk rfl hK hP hS d_Store_isTransaction_17
def F_Store_isTransaction (R : Nat → Nat → Nat) (a0 : Nat) (x1 : Int32) (I : St) : Option Int32 := (if x1 < 0 then B_Store_isTransaction_16 R I else (if (I a0 3) ≤ x1 then B_Store_isTransaction_16 R I else some (1 : Int32)))
set_option maxHeartbeats 4000000 in
set_option maxRecDepth 100000 in
theorem c_Store_isTransaction (l : Launch) {g : Sg} {R : Nat → Nat → Nat} (hT : Ty g R) {a0 : Nat} (o0 : okA g 4 0 a0) {x1 : Int32} {I : St} {v : Int32} (h : F_Store_isTransaction R a0 x1 I = some v) : Cti l g R y_Store_isTransaction w_Store_isTransaction 0 0 [.ref a0, .int x1] I v I := by
  unfold Cti
  refine Met.ofW (cc := b_Store_isTransaction) (maxL := 2) (ret := (some .boolean)) (by decide) rfl ?_
  intro p e s m args below meth c s₁ B hml hv
  obtain ⟨rfl, hP, hK⟩ := hv
  have hts := atoms_spec (ws := w_Store_isTransaction) B.pre
  have hall : ∀ w ∈ w_all, w.before _ s = true := fun w hw => hts w (List.mem_cons_of_mem _ hw)
  have hown : s.vm.findClass R_Store = some m.cls := findClass_of_methodNamed B.named
  have hx := B.exec
  have hb := B.bytes
  have hr := B.returns
  have hlk := B.notSynchronized
  have cx : Cx p s m _ meth c g R R_Store b_Store_isTransaction 2 (some .boolean) := ⟨hx, hb, hml, hr, hlk, hown, hall, hT, hK⟩
  have hl := lv_entry ([.ref a0, .int x1]) (n := 2) (Nat.le_of_ble_eq_true rfl)
  rw [lg_entry_eq]
  generalize (lg_sl ([.ref a0, .int x1]) ++ List.replicate (2 - (lg_sl ([.ref a0, .int x1])).length) Slot.unset).toArray = ls at hl ⊢
  have hl : lv_has ls 2 [(0, .ref a0), (1, .int x1)] := hl
  have hS : va_S (· ∈ g.L) s.heap s.heap [] := va_S.rf
  unfold F_Store_isTransaction at h
  refine lv_iload_n hx hb d_Store_isTransaction_0 rfl (lv_at hl 1 rfl) ?_
  refine lv_if_lt hx hb d_Store_isTransaction_1 rfl (fun hc => ?_) (fun hc => ?_)
  · replace h := i_pos hc h
    exact b_Store_isTransaction_16 cx _ _ _ h hP hS (lv_sub hl [] rfl)
  · replace h := i_neg hc h
    refine lv_iload_n hx hb d_Store_isTransaction_4 rfl (lv_at hl 1 rfl) ?_
    refine lv_aload_n hx hb d_Store_isTransaction_5 rfl (lv_at hl 0 rfl) ?_
    refine gg_get (C := R_Store) (T := F_Store) (N := 4) (ci := 4) hx hb hall i_Store hown hK hP o0.1 (wE_4 o0.2) rfl 3 (by decide) (hall _ m_158) (fun _ h9 => h9) rfl d_Store_isTransaction_6 ?_
    refine lv_icmp_ge hx hb d_Store_isTransaction_9 rfl (fun hc => ?_) (fun hc => ?_)
    · replace h := i_pos hc h
      exact b_Store_isTransaction_16 cx _ _ _ h hP hS (lv_sub hl [] rfl)
    · replace h := i_neg hc h
      refine lv_iconst (v := 1) hx hb d_Store_isTransaction_12 (by decide) ?_
      refine lv_goto hx hb d_Store_isTransaction_13 rfl ?_
      obtain rfl := Option.some.inj h
      exact gg_zret hx hb hr hlk rfl hK hP hS d_Store_isTransaction_17
abbrev b_Store_isKey : ByteArray := prog_1_method_23_code
def y_Store_isKey : MethodName := ⟨"StampedStore", "isKey", "(I)Z"⟩
def w_Store_isKey : List Cond := .code y_Store_isKey b_Store_isKey 1 (some .boolean) :: w_all
theorem d_Store_isKey_0 : decode b_Store_isKey 0 = .ok (.iload_n 0, 1) := by decide +kernel
theorem d_Store_isKey_1 : decode b_Store_isKey 1 = .ok (.ifCond .lt 13, 3) := by decide +kernel
theorem d_Store_isKey_4 : decode b_Store_isKey 4 = .ok (.iload_n 0, 1) := by decide +kernel
theorem d_Store_isKey_5 : decode b_Store_isKey 5 = .ok (.bipush 8, 2) := by decide +kernel
theorem d_Store_isKey_7 : decode b_Store_isKey 7 = .ok (.if_icmp .ge 7, 3) := by decide +kernel
theorem d_Store_isKey_10 : decode b_Store_isKey 10 = .ok (.iconst 1, 1) := by decide +kernel
theorem d_Store_isKey_11 : decode b_Store_isKey 11 = .ok (.goto 4, 3) := by decide +kernel
theorem d_Store_isKey_14 : decode b_Store_isKey 14 = .ok (.iconst 0, 1) := by decide +kernel
theorem d_Store_isKey_15 : decode b_Store_isKey 15 = .ok (.ireturn, 1) := by decide +kernel
def B_Store_isKey_14 (R : Nat → Nat → Nat) (I : St) : Option Int32 := some (0 : Int32)
set_option maxHeartbeats 4000000 in
set_option maxRecDepth 100000 in
theorem b_Store_isKey_14 {p : Program} {l : Launch} {e : Env} {s : State} {m : MethodId} {args : Array Value} {below : List Frame} {meth : Method} {c : Code} {g : Sg} {R : Nat → Nat → Nat} {I : St} {v : Int32} (cx : Cx p s m args meth c g R R_Store b_Store_isKey 1 (some .boolean)) : ∀ (H : Heap) (locs : List Loc) (ls : Array Slot), B_Store_isKey_14 R I = some v → wW g R I H → va_S (· ∈ g.L) s.heap H locs → lv_has ls 1 [] → W p l e { frames := 0, cells := 0, slots := 0, locals := 0 } s m args below meth c H locs 0 0 (MQ below (Qi g R v I) args s 0 0 (· ∈ g.L)) (F0 m 14 ls []) := by
  have ⟨hx, hb, hml, hr, hlk, hown, hall, hT, hK⟩ := cx
  intro H locs ls h hP hS hl
  unfold B_Store_isKey_14 at h
  refine lv_iconst (v := 0) hx hb d_Store_isKey_14 (by decide) ?_
  obtain rfl := Option.some.inj h
  exact gg_zret hx hb hr hlk rfl hK hP hS d_Store_isKey_15
def F_Store_isKey (R : Nat → Nat → Nat) (x0 : Int32) (I : St) : Option Int32 := (if x0 < 0 then B_Store_isKey_14 R I else (if (8 : Int32) ≤ x0 then B_Store_isKey_14 R I else some (1 : Int32)))
set_option maxHeartbeats 4000000 in
set_option maxRecDepth 100000 in
theorem c_Store_isKey (l : Launch) {g : Sg} {R : Nat → Nat → Nat} (hT : Ty g R) {x0 : Int32} {I : St} {v : Int32} (h : F_Store_isKey R x0 I = some v) : Cti l g R y_Store_isKey w_Store_isKey 0 0 [.int x0] I v I := by
  unfold Cti
  refine Met.ofW (cc := b_Store_isKey) (maxL := 1) (ret := (some .boolean)) (by decide) rfl ?_
  intro p e s m args below meth c s₁ B hml hv
  obtain ⟨rfl, hP, hK⟩ := hv
  have hts := atoms_spec (ws := w_Store_isKey) B.pre
  have hall : ∀ w ∈ w_all, w.before _ s = true := fun w hw => hts w (List.mem_cons_of_mem _ hw)
  have hown : s.vm.findClass R_Store = some m.cls := findClass_of_methodNamed B.named
  have hx := B.exec
  have hb := B.bytes
  have hr := B.returns
  have hlk := B.notSynchronized
  have cx : Cx p s m _ meth c g R R_Store b_Store_isKey 1 (some .boolean) := ⟨hx, hb, hml, hr, hlk, hown, hall, hT, hK⟩
  have hl := lv_entry ([.int x0]) (n := 1) (Nat.le_of_ble_eq_true rfl)
  rw [lg_entry_eq]
  generalize (lg_sl ([.int x0]) ++ List.replicate (1 - (lg_sl ([.int x0])).length) Slot.unset).toArray = ls at hl ⊢
  have hl : lv_has ls 1 [(0, .int x0)] := hl
  have hS : va_S (· ∈ g.L) s.heap s.heap [] := va_S.rf
  unfold F_Store_isKey at h
  refine lv_iload_n hx hb d_Store_isKey_0 rfl (lv_at hl 0 rfl) ?_
  refine lv_if_lt hx hb d_Store_isKey_1 rfl (fun hc => ?_) (fun hc => ?_)
  · replace h := i_pos hc h
    exact b_Store_isKey_14 cx _ _ _ h hP hS (lv_sub hl [] rfl)
  · replace h := i_neg hc h
    refine lv_iload_n hx hb d_Store_isKey_4 rfl (lv_at hl 0 rfl) ?_
    refine lv_bipush (v := 8) hx hb d_Store_isKey_5 (by decide) ?_
    refine lv_icmp_ge hx hb d_Store_isKey_7 rfl (fun hc => ?_) (fun hc => ?_)
    · replace h := i_pos hc h
      exact b_Store_isKey_14 cx _ _ _ h hP hS (lv_sub hl [] rfl)
    · replace h := i_neg hc h
      refine lv_iconst (v := 1) hx hb d_Store_isKey_10 (by decide) ?_
      refine lv_goto hx hb d_Store_isKey_11 rfl ?_
      obtain rfl := Option.some.inj h
      exact gg_zret hx hb hr hlk rfl hK hP hS d_Store_isKey_15
abbrev b_Txn_writes : ByteArray := prog_5_method_2_code
def y_Txn_writes : MethodName := ⟨"StampedStore$Transaction", "writes", "(I)Z"⟩
def w_Txn_writes : List Cond := .code y_Txn_writes b_Txn_writes 2 (some .boolean) :: w_all
theorem d_Txn_writes_0 : decode b_Txn_writes 0 = .ok (.aload_n 0, 1) := by decide +kernel
theorem d_Txn_writes_1 : decode b_Txn_writes 1 = .ok (.getfield 15, 3) := by decide +kernel
theorem d_Txn_writes_4 : decode b_Txn_writes 4 = .ok (.iload_n 1, 1) := by decide +kernel
theorem d_Txn_writes_5 : decode b_Txn_writes 5 = .ok (.iaload, 1) := by decide +kernel
theorem d_Txn_writes_6 : decode b_Txn_writes 6 = .ok (.iconst (-1), 1) := by decide +kernel
theorem d_Txn_writes_7 : decode b_Txn_writes 7 = .ok (.if_icmp .eq 7, 3) := by decide +kernel
theorem d_Txn_writes_10 : decode b_Txn_writes 10 = .ok (.iconst 1, 1) := by decide +kernel
theorem d_Txn_writes_11 : decode b_Txn_writes 11 = .ok (.goto 4, 3) := by decide +kernel
theorem d_Txn_writes_14 : decode b_Txn_writes 14 = .ok (.iconst 0, 1) := by decide +kernel
theorem d_Txn_writes_15 : decode b_Txn_writes 15 = .ok (.ireturn, 1) := by decide +kernel
def F_Txn_writes (R : Nat → Nat → Nat) (a0 : Nat) (x1 : Int32) (I : St) : Option Int32 := (chk x1 8 ((if (I (R a0 1) x1.toNatClampNeg) = (-1 : Int32) then some (0 : Int32) else some (1 : Int32))))
set_option maxHeartbeats 4000000 in
set_option maxRecDepth 100000 in
theorem c_Txn_writes (l : Launch) {g : Sg} {R : Nat → Nat → Nat} (hT : Ty g R) {a0 : Nat} (o0 : okA g 3 0 a0) {x1 : Int32} {I : St} {v : Int32} (h : F_Txn_writes R a0 x1 I = some v) : Cti l g R y_Txn_writes w_Txn_writes 0 0 [.ref a0, .int x1] I v I := by
  unfold Cti
  refine Met.ofW (cc := b_Txn_writes) (maxL := 2) (ret := (some .boolean)) (by decide) rfl ?_
  intro p e s m args below meth c s₁ B hml hv
  obtain ⟨rfl, hP, hK⟩ := hv
  have hts := atoms_spec (ws := w_Txn_writes) B.pre
  have hall : ∀ w ∈ w_all, w.before _ s = true := fun w hw => hts w (List.mem_cons_of_mem _ hw)
  have hown : s.vm.findClass R_Txn = some m.cls := findClass_of_methodNamed B.named
  have hx := B.exec
  have hb := B.bytes
  have hr := B.returns
  have hlk := B.notSynchronized
  have cx : Cx p s m _ meth c g R R_Txn b_Txn_writes 2 (some .boolean) := ⟨hx, hb, hml, hr, hlk, hown, hall, hT, hK⟩
  have hl := lv_entry ([.ref a0, .int x1]) (n := 2) (Nat.le_of_ble_eq_true rfl)
  rw [lg_entry_eq]
  generalize (lg_sl ([.ref a0, .int x1]) ++ List.replicate (2 - (lg_sl ([.ref a0, .int x1])).length) Slot.unset).toArray = ls at hl ⊢
  have hl : lv_has ls 2 [(0, .ref a0), (1, .int x1)] := hl
  have hS : va_S (· ∈ g.L) s.heap s.heap [] := va_S.rf
  unfold F_Txn_writes at h
  refine lv_aload_n hx hb d_Txn_writes_0 rfl (lv_at hl 0 rfl) ?_
  refine gg_get (C := R_Txn) (T := F_Txn) (N := 5) (ci := 3) hx hb hall i_Txn hown hK hP o0.1 (wE_3 o0.2) rfl 1 (by decide) (hall _ m_162) (fun _ h9 => h9) rfl d_Txn_writes_1 ?_
  have o_1 : okA g 6 8 (R a0 1) := ty_Txn_1 hT o0
  refine lv_iload_n hx hb d_Txn_writes_4 rfl (lv_at hl 1 rfl) ?_
  obtain ⟨hi5, h⟩ := chk_el h
  refine gg_iald hx hb hK hP o_1 hi5 d_Txn_writes_5 ?_
  refine lv_iconst (v := (-1)) hx hb d_Txn_writes_6 (by decide) ?_
  refine lv_icmp_eq hx hb d_Txn_writes_7 rfl (fun hc => ?_) (fun hc => ?_)
  · replace h := i_pos hc h
    refine lv_iconst (v := 0) hx hb d_Txn_writes_14 (by decide) ?_
    obtain rfl := Option.some.inj h
    exact gg_zret hx hb hr hlk rfl hK hP hS d_Txn_writes_15
  · replace h := i_neg hc h
    refine lv_iconst (v := 1) hx hb d_Txn_writes_10 (by decide) ?_
    refine lv_goto hx hb d_Txn_writes_11 rfl ?_
    obtain rfl := Option.some.inj h
    exact gg_zret hx hb hr hlk rfl hK hP hS d_Txn_writes_15
abbrev b_Store_groupOfKey : ByteArray := prog_1_method_26_code
def y_Store_groupOfKey : MethodName := ⟨"StampedStore", "groupOfKey", "(I)I"⟩
def w_Store_groupOfKey : List Cond := .code y_Store_groupOfKey b_Store_groupOfKey 1 (some .int) :: w_all
theorem d_Store_groupOfKey_0 : decode b_Store_groupOfKey 0 = .ok (.iload_n 0, 1) := by decide +kernel
theorem d_Store_groupOfKey_1 : decode b_Store_groupOfKey 1 = .ok (.iconst 4, 1) := by decide +kernel
theorem d_Store_groupOfKey_2 : decode b_Store_groupOfKey 2 = .ok (.idiv, 1) := by decide +kernel
theorem d_Store_groupOfKey_3 : decode b_Store_groupOfKey 3 = .ok (.ireturn, 1) := by decide +kernel
def F_Store_groupOfKey (R : Nat → Nat → Nat) (x0 : Int32) (I : St) : Option Int32 := some (x0 / (4 : Int32))
set_option maxHeartbeats 4000000 in
set_option maxRecDepth 100000 in
theorem c_Store_groupOfKey (l : Launch) {g : Sg} {R : Nat → Nat → Nat} (hT : Ty g R) {x0 : Int32} {I : St} {v : Int32} (h : F_Store_groupOfKey R x0 I = some v) : Cti l g R y_Store_groupOfKey w_Store_groupOfKey 0 0 [.int x0] I v I := by
  unfold Cti
  refine Met.ofW (cc := b_Store_groupOfKey) (maxL := 1) (ret := (some .int)) (by decide) rfl ?_
  intro p e s m args below meth c s₁ B hml hv
  obtain ⟨rfl, hP, hK⟩ := hv
  have hts := atoms_spec (ws := w_Store_groupOfKey) B.pre
  have hall : ∀ w ∈ w_all, w.before _ s = true := fun w hw => hts w (List.mem_cons_of_mem _ hw)
  have hown : s.vm.findClass R_Store = some m.cls := findClass_of_methodNamed B.named
  have hx := B.exec
  have hb := B.bytes
  have hr := B.returns
  have hlk := B.notSynchronized
  have cx : Cx p s m _ meth c g R R_Store b_Store_groupOfKey 1 (some .int) := ⟨hx, hb, hml, hr, hlk, hown, hall, hT, hK⟩
  have hl := lv_entry ([.int x0]) (n := 1) (Nat.le_of_ble_eq_true rfl)
  rw [lg_entry_eq]
  generalize (lg_sl ([.int x0]) ++ List.replicate (1 - (lg_sl ([.int x0])).length) Slot.unset).toArray = ls at hl ⊢
  have hl : lv_has ls 1 [(0, .int x0)] := hl
  have hS : va_S (· ∈ g.L) s.heap s.heap [] := va_S.rf
  unfold F_Store_groupOfKey at h
  refine lv_iload_n hx hb d_Store_groupOfKey_0 rfl (lv_at hl 0 rfl) ?_
  refine lv_iconst (v := 4) hx hb d_Store_groupOfKey_1 (by decide) ?_
  refine lv_idiv hx hb d_Store_groupOfKey_2 (by decide) ?_
  obtain rfl := Option.some.inj h
  exact gg_iret hx hb hr hlk hK hP hS d_Store_groupOfKey_3
end
