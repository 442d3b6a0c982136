section
abbrev b_Store_known : ByteArray := prog_1_method_20_code
def y_Store_known : MethodName := ⟨"StampedStore", "known", "(I)I"⟩
def w_Store_known : List Cond := .code y_Store_known b_Store_known 2 (some .int) :: w_all
theorem d_Store_known_0 : decode b_Store_known 0 = .ok (.iload_n 1, 1) := by decide +kernel
theorem d_Store_known_1 : decode b_Store_known 1 = .ok (.invokestatic 38, 3) := by decide +kernel
theorem d_Store_known_4 : decode b_Store_known 4 = .ok (.ifCond .eq 18, 3) := by decide +kernel
theorem d_Store_known_7 : decode b_Store_known 7 = .ok (.aload_n 0, 1) := by decide +kernel
theorem d_Store_known_8 : decode b_Store_known 8 = .ok (.getfield 11, 3) := by decide +kernel
theorem d_Store_known_11 : decode b_Store_known 11 = .ok (.iload_n 1, 1) := by decide +kernel
theorem d_Store_known_12 : decode b_Store_known 12 = .ok (.aaload, 1) := by decide +kernel
theorem d_Store_known_13 : decode b_Store_known 13 = .ok (.getfield 97, 3) := by decide +kernel
theorem d_Store_known_16 : decode b_Store_known 16 = .ok (.getfield 113, 3) := by decide +kernel
theorem d_Store_known_19 : decode b_Store_known 19 = .ok (.goto 4, 3) := by decide +kernel
theorem d_Store_known_22 : decode b_Store_known 22 = .ok (.iconst (-1), 1) := by decide +kernel
theorem d_Store_known_23 : decode b_Store_known 23 = .ok (.ireturn, 1) := by decide +kernel
def F_Store_known (R : Nat → Nat → Nat) (a0 : Nat) (x1 : Int32) (I : St) : Option Int32 := (ob (F_Store_isNode R x1 I) (fun v1 => (if v1 = 0 then some (-1 : Int32) else (chk x1 6 (some (I (R (R (R a0 1) x1.toNatClampNeg) 2) 6))))))
set_option maxHeartbeats 4000000 in
set_option maxRecDepth 100000 in
theorem c_Store_known (l : Launch) {g : Sg} {R : Nat → Nat → Nat} (hT : Ty g R) {a0 : Nat} (o0 : okA g 4 0 a0) {x1 : Int32} {I : St} {v : Int32} (h : F_Store_known R a0 x1 I = some v) : Cti l g R y_Store_known w_Store_known 1 20 [.ref a0, .int x1] I v I := by
  unfold Cti
  refine Met.ofW (cc := b_Store_known) (maxL := 2) (ret := (some .int)) (by decide) rfl ?_
  intro p e s m args below meth c s₁ B hml hv
  obtain ⟨rfl, hP, hK⟩ := hv
  have hts := atoms_spec (ws := w_Store_known) B.pre
  have hall : ∀ w ∈ w_all, w.before _ s = true := fun w hw => hts w (List.mem_cons_of_mem _ hw)
  have hown : s.vm.findClass R_Store = some m.cls := findClass_of_methodNamed B.named
  have hx := B.exec
  have hb := B.bytes
  have hr := B.returns
  have hlk := B.notSynchronized
  have cx : Cx p s m _ meth c g R R_Store b_Store_known 2 (some .int) := ⟨hx, hb, hml, hr, hlk, hown, hall, hT, hK⟩
  have hl := lv_entry ([.ref a0, .int x1]) (n := 2) (Nat.le_of_ble_eq_true rfl)
  rw [lg_entry_eq]
  generalize (lg_sl ([.ref a0, .int x1]) ++ List.replicate (2 - (lg_sl ([.ref a0, .int x1])).length) Slot.unset).toArray = ls at hl ⊢
  have hl : lv_has ls 2 [(0, .ref a0), (1, .int x1)] := hl
  have hS : va_S (· ∈ g.L) s.heap s.heap [] := va_S.rf
  unfold F_Store_known at h
  refine lv_iload_n hx hb d_Store_known_0 rfl (lv_at hl 1 rfl) ?_
  obtain ⟨v1, e1, h⟩ := ob_el h
  refine gg_Si (As := [.int x1]) (rest := []) ⟨hx, hb, hml, hown, hall⟩ (c_Store_isNode l hT e1) (cwS 1 hall (gS m_4 m_5 m_6 m_3) rfl rfl rfl (by decide +kernel) ⟨Nat.le_of_ble_eq_true rfl, Nat.le_of_ble_eq_true rfl⟩) hK hP hS rfl hl.1 rfl (Nat.le_of_ble_eq_true rfl) d_Store_known_1 (fun H locs hP hS => ?_)
  refine lv_if_eq hx hb d_Store_known_4 rfl (fun hc => ?_) (fun hc => ?_)
  · replace h := i_pos hc h
    refine lv_iconst (v := (-1)) hx hb d_Store_known_22 (by decide) ?_
    obtain rfl := Option.some.inj h
    exact gg_iret hx hb hr hlk hK hP hS d_Store_known_23
  · replace h := i_neg hc h
    refine lv_aload_n hx hb d_Store_known_7 rfl (lv_at hl 0 rfl) ?_
    refine gg_get (C := R_Store) (T := F_Store) (N := 4) (ci := 4) hx hb hall i_Store hown hK hP o0.1 (wE_4 o0.2) rfl 1 (by decide) (hall _ m_8) (fun _ h9 => h9) rfl d_Store_known_8 ?_
    have o_8 : okA g 8 6 (R a0 1) := ty_Store_1 hT o0
    refine lv_iload_n hx hb d_Store_known_11 rfl (lv_at hl 1 rfl) ?_
    obtain ⟨hi12, h⟩ := chk_el h
    refine gg_nald hx hb hK hP o_8 hi12 d_Store_known_12 ?_
    have o_12 : okA g 2 0 (R (R a0 1) x1.toNatClampNeg) := ty_8 hT o_8 _
    refine gg_get (C := R_Node) (T := F_Node) (N := 10) (ci := 2) hx hb hall i_Node hown hK hP o_12.1 (wE_2 o_12.2) rfl 2 (by decide) (hall _ m_134) (fun _ h9 => h9) rfl d_Store_known_13 ?_
    have o_13 : okA g 1 0 (R (R (R a0 1) x1.toNatClampNeg) 2) := ty_Node_2 hT o_12
    refine gg_get (C := R_Log) (T := F_Log) (N := 7) (ci := 1) hx hb hall i_Log hown hK hP o_13.1 (wE_1 o_13.2) rfl 6 (by decide) (hall _ m_156) (fun _ h9 => h9) rfl d_Store_known_16 ?_
    refine lv_goto hx hb d_Store_known_19 rfl ?_
    obtain rfl := Option.some.inj h
    exact gg_iret hx hb hr hlk hK hP hS d_Store_known_23
abbrev b_Store_leader : ByteArray := prog_1_method_21_code
def y_Store_leader : MethodName := ⟨"StampedStore", "leader", "(I)I"⟩
def w_Store_leader : List Cond := .code y_Store_leader b_Store_leader 2 (some .int) :: w_all
theorem d_Store_leader_0 : decode b_Store_leader 0 = .ok (.iload_n 1, 1) := by decide +kernel
theorem d_Store_leader_1 : decode b_Store_leader 1 = .ok (.ifCond .lt 16, 3) := by decide +kernel
theorem d_Store_leader_4 : decode b_Store_leader 4 = .ok (.iload_n 1, 1) := by decide +kernel
theorem d_Store_leader_5 : decode b_Store_leader 5 = .ok (.iconst 2, 1) := by decide +kernel
theorem d_Store_leader_6 : decode b_Store_leader 6 = .ok (.if_icmp .ge 11, 3) := by decide +kernel
theorem d_Store_leader_9 : decode b_Store_leader 9 = .ok (.aload_n 0, 1) := by decide +kernel
theorem d_Store_leader_10 : decode b_Store_leader 10 = .ok (.iload_n 1, 1) := by decide +kernel
theorem d_Store_leader_11 : decode b_Store_leader 11 = .ok (.invokevirtual 141, 3) := by decide +kernel
theorem d_Store_leader_14 : decode b_Store_leader 14 = .ok (.goto 4, 3) := by decide +kernel
theorem d_Store_leader_17 : decode b_Store_leader 17 = .ok (.iconst (-1), 1) := by decide +kernel
theorem d_Store_leader_18 : decode b_Store_leader 18 = .ok (.ireturn, 1) := by decide +kernel
def B_Store_leader_17 (R : Nat → Nat → Nat) (I : St) : Option Int32 := some (-1 : Int32)
set_option maxHeartbeats 4000000 in
set_option maxRecDepth 100000 in
theorem b_Store_leader_17 {p : Program} {l : Launch} {e : Env} {s : State} {m : MethodId} {args : Array Value} {below : List Frame} {meth : Method} {c : Code} {g : Sg} {R : Nat → Nat → Nat} {I : St} {v : Int32} (cx : Cx p s m args meth c g R R_Store b_Store_leader 2 (some .int)) : ∀ (H : Heap) (locs : List Loc) (ls : Array Slot), B_Store_leader_17 R I = some v → wW g R I H → va_S (· ∈ g.L) s.heap H locs → lv_has ls 2 [] → W p l e { frames := 3, cells := 0, slots := 0, locals := 63 } s m args below meth c H locs 0 0 (MQ below (Qi g R v I) args s 0 0 (· ∈ g.L)) (F0 m 17 ls []) := by
  have ⟨hx, hb, hml, hr, hlk, hown, hall, hT, hK⟩ := cx
  intro H locs ls h hP hS hl
  unfold B_Store_leader_17 at h
  refine lv_iconst (v := (-1)) hx hb d_Store_leader_17 (by decide) ?_
  obtain rfl := Option.some.inj h
  exact gg_iret hx hb hr hlk hK hP hS d_Store_leader_18
def F_Store_leader (R : Nat → Nat → Nat) (a0 : Nat) (x1 : Int32) (I : St) : Option Int32 := (if x1 < 0 then B_Store_leader_17 R I else (if (2 : Int32) ≤ x1 then B_Store_leader_17 R I else (ob (F_Store_readyNode R a0 x1 I) (fun v11 => some v11))))
set_option maxHeartbeats 4000000 in
set_option maxRecDepth 100000 in
theorem c_Store_leader (l : Launch) {g : Sg} {R : Nat → Nat → Nat} (hT : Ty g R) {a0 : Nat} (o0 : okA g 4 0 a0) {x1 : Int32} {I : St} {v : Int32} (h : F_Store_leader R a0 x1 I = some v) : Cti l g R y_Store_leader w_Store_leader 3 63 [.ref a0, .int x1] I v I := by
  unfold Cti
  refine Met.ofW (cc := b_Store_leader) (maxL := 2) (ret := (some .int)) (by decide) rfl ?_
  intro p e s m args below meth c s₁ B hml hv
  obtain ⟨rfl, hP, hK⟩ := hv
  have hts := atoms_spec (ws := w_Store_leader) B.pre
  have hall : ∀ w ∈ w_all, w.before _ s = true := fun w hw => hts w (List.mem_cons_of_mem _ hw)
  have hown : s.vm.findClass R_Store = some m.cls := findClass_of_methodNamed B.named
  have hx := B.exec
  have hb := B.bytes
  have hr := B.returns
  have hlk := B.notSynchronized
  have cx : Cx p s m _ meth c g R R_Store b_Store_leader 2 (some .int) := ⟨hx, hb, hml, hr, hlk, hown, hall, hT, hK⟩
  have hl := lv_entry ([.ref a0, .int x1]) (n := 2) (Nat.le_of_ble_eq_true rfl)
  rw [lg_entry_eq]
  generalize (lg_sl ([.ref a0, .int x1]) ++ List.replicate (2 - (lg_sl ([.ref a0, .int x1])).length) Slot.unset).toArray = ls at hl ⊢
  have hl : lv_has ls 2 [(0, .ref a0), (1, .int x1)] := hl
  have hS : va_S (· ∈ g.L) s.heap s.heap [] := va_S.rf
  unfold F_Store_leader at h
  refine lv_iload_n hx hb d_Store_leader_0 rfl (lv_at hl 1 rfl) ?_
  refine lv_if_lt hx hb d_Store_leader_1 rfl (fun hc => ?_) (fun hc => ?_)
  · replace h := i_pos hc h
    exact b_Store_leader_17 cx _ _ _ h hP hS (lv_sub hl [] rfl)
  · replace h := i_neg hc h
    refine lv_iload_n hx hb d_Store_leader_4 rfl (lv_at hl 1 rfl) ?_
    refine lv_iconst (v := 2) hx hb d_Store_leader_5 (by decide) ?_
    refine lv_icmp_ge hx hb d_Store_leader_6 rfl (fun hc => ?_) (fun hc => ?_)
    · replace h := i_pos hc h
      exact b_Store_leader_17 cx _ _ _ h hP hS (lv_sub hl [] rfl)
    · replace h := i_neg hc h
      refine lv_aload_n hx hb d_Store_leader_9 rfl (lv_at hl 0 rfl) ?_
      refine lv_iload_n hx hb d_Store_leader_10 rfl (lv_at hl 1 rfl) ?_
      obtain ⟨v11, e11, h⟩ := ob_el h
      refine gg_Vi (As := [.int x1]) (rest := []) (ci := 4) (C := R_Store) (T := F_Store) (N := 4) ⟨hx, hb, hml, hown, hall⟩ (c_Store_readyNode l hT o0 e11) (cwV 1 hall (gV m_172 m_173 m_174 m_6 m_169) rfl rfl rfl (by decide +kernel) ⟨Nat.le_of_ble_eq_true rfl, Nat.le_of_ble_eq_true rfl⟩) hK hP hS o0.1 (wE_4 o0.2) rfl rfl hl.1 rfl (Nat.le_of_ble_eq_true rfl) d_Store_leader_11 (fun H locs hP hS => ?_)
      refine lv_goto hx hb d_Store_leader_14 rfl ?_
      obtain rfl := Option.some.inj h
      exact gg_iret hx hb hr hlk hK hP hS d_Store_leader_18
abbrev b_Model_below : ByteArray := prog_7_method_2_code
def y_Model_below : MethodName := ⟨"StampedStoreModel", "below", "(II)Z"⟩
def w_Model_below : List Cond := .code y_Model_below b_Model_below 2 (some .boolean) :: w_all
theorem d_Model_below_0 : decode b_Model_below 0 = .ok (.iload_n 0, 1) := by decide +kernel
theorem d_Model_below_1 : decode b_Model_below 1 = .ok (.ifCond .lt 12, 3) := by decide +kernel
theorem d_Model_below_4 : decode b_Model_below 4 = .ok (.iload_n 0, 1) := by decide +kernel
theorem d_Model_below_5 : decode b_Model_below 5 = .ok (.iload_n 1, 1) := by decide +kernel
theorem d_Model_below_6 : decode b_Model_below 6 = .ok (.if_icmp .ge 7, 3) := by decide +kernel
theorem d_Model_below_9 : decode b_Model_below 9 = .ok (.iconst 1, 1) := by decide +kernel
theorem d_Model_below_10 : decode b_Model_below 10 = .ok (.goto 4, 3) := by decide +kernel
theorem d_Model_below_13 : decode b_Model_below 13 = .ok (.iconst 0, 1) := by decide +kernel
theorem d_Model_below_14 : decode b_Model_below 14 = .ok (.ireturn, 1) := by decide +kernel
def B_Model_below_13 (R : Nat → Nat → Nat) (I : St) : Option Int32 := some (0 : Int32)
set_option maxHeartbeats 4000000 in
set_option maxRecDepth 100000 in
theorem b_Model_below_13 {p : Program} {l : Launch} {e : Env} {s : State} {m : MethodId} {args : Array Value} {below : List Frame} {meth : Method} {c : Code} {g : Sg} {R : Nat → Nat → Nat} {I : St} {v : Int32} (cx : Cx p s m args meth c g R R_Model b_Model_below 2 (some .boolean)) : ∀ (H : Heap) (locs : List Loc) (ls : Array Slot), B_Model_below_13 R I = some v → wW g R I H → va_S (· ∈ g.L) s.heap H locs → lv_has ls 2 [] → W p l e { frames := 0, cells := 0, slots := 0, locals := 0 } s m args below meth c H locs 0 0 (MQ below (Qi g R v I) args s 0 0 (· ∈ g.L)) (F0 m 13 ls []) := by
  have ⟨hx, hb, hml, hr, hlk, hown, hall, hT, hK⟩ := cx
  intro H locs ls h hP hS hl
  unfold B_Model_below_13 at h
  refine lv_iconst (v := 0) hx hb d_Model_below_13 (by decide) ?_
  obtain rfl := Option.some.inj h
  exact gg_zret hx hb hr hlk rfl hK hP hS d_Model_below_14
def F_Model_below (R : Nat → Nat → Nat) (x0 : Int32) (x1 : Int32) (I : St) : Option Int32 := (if x0 < 0 then B_Model_below_13 R I else (if x1 ≤ x0 then B_Model_below_13 R I else some (1 : Int32)))
set_option maxHeartbeats 4000000 in
set_option maxRecDepth 100000 in
theorem c_Model_below (l : Launch) {g : Sg} {R : Nat → Nat → Nat} (hT : Ty g R) {x0 : Int32} {x1 : Int32} {I : St} {v : Int32} (h : F_Model_below R x0 x1 I = some v) : Cti l g R y_Model_below w_Model_below 0 0 [.int x0, .int x1] I v I := by
  unfold Cti
  refine Met.ofW (cc := b_Model_below) (maxL := 2) (ret := (some .boolean)) (by decide) rfl ?_
  intro p e s m args below meth c s₁ B hml hv
  obtain ⟨rfl, hP, hK⟩ := hv
  have hts := atoms_spec (ws := w_Model_below) B.pre
  have hall : ∀ w ∈ w_all, w.before _ s = true := fun w hw => hts w (List.mem_cons_of_mem _ hw)
  have hown : s.vm.findClass R_Model = some m.cls := findClass_of_methodNamed B.named
  have hx := B.exec
  have hb := B.bytes
  have hr := B.returns
  have hlk := B.notSynchronized
  have cx : Cx p s m _ meth c g R R_Model b_Model_below 2 (some .boolean) := ⟨hx, hb, hml, hr, hlk, hown, hall, hT, hK⟩
  have hl := lv_entry ([.int x0, .int x1]) (n := 2) (Nat.le_of_ble_eq_true rfl)
  rw [lg_entry_eq]
  generalize (lg_sl ([.int x0, .int x1]) ++ List.replicate (2 - (lg_sl ([.int x0, .int x1])).length) Slot.unset).toArray = ls at hl ⊢
  have hl : lv_has ls 2 [(0, .int x0), (1, .int x1)] := hl
  have hS : va_S (· ∈ g.L) s.heap s.heap [] := va_S.rf
  unfold F_Model_below at h
  refine lv_iload_n hx hb d_Model_below_0 rfl (lv_at hl 0 rfl) ?_
  refine lv_if_lt hx hb d_Model_below_1 rfl (fun hc => ?_) (fun hc => ?_)
  · replace h := i_pos hc h
    exact b_Model_below_13 cx _ _ _ h hP hS (lv_sub hl [] rfl)
  · replace h := i_neg hc h
    refine lv_iload_n hx hb d_Model_below_4 rfl (lv_at hl 0 rfl) ?_
    refine lv_iload_n hx hb d_Model_below_5 rfl (lv_at hl 1 rfl) ?_
    refine lv_icmp_ge hx hb d_Model_below_6 rfl (fun hc => ?_) (fun hc => ?_)
    · replace h := i_pos hc h
      exact b_Model_below_13 cx _ _ _ h hP hS (lv_sub hl [] rfl)
    · replace h := i_neg hc h
      refine lv_iconst (v := 1) hx hb d_Model_below_9 (by decide) ?_
      refine lv_goto hx hb d_Model_below_10 rfl ?_
      obtain rfl := Option.some.inj h
      exact gg_zret hx hb hr hlk rfl hK hP hS d_Model_below_14
abbrev b_Model_earliest : ByteArray := prog_7_method_3_code
def y_Model_earliest : MethodName := ⟨"StampedStoreModel", "earliest", "(I)I"⟩
def w_Model_earliest : List Cond := .code y_Model_earliest b_Model_earliest 2 (some .int) :: w_all
theorem d_Model_earliest_0 : decode b_Model_earliest 0 = .ok (.aload_n 0, 1) := by decide +kernel
theorem d_Model_earliest_1 : decode b_Model_earliest 1 = .ok (.getfield 75, 3) := by decide +kernel
theorem d_Model_earliest_4 : decode b_Model_earliest 4 = .ok (.aload_n 0, 1) := by decide +kernel
theorem d_Model_earliest_5 : decode b_Model_earliest 5 = .ok (.getfield 13, 3) := by decide +kernel
theorem d_Model_earliest_8 : decode b_Model_earliest 8 = .ok (.iload_n 1, 1) := by decide +kernel
theorem d_Model_earliest_9 : decode b_Model_earliest 9 = .ok (.iaload, 1) := by decide +kernel
theorem d_Model_earliest_10 : decode b_Model_earliest 10 = .ok (.iadd, 1) := by decide +kernel
theorem d_Model_earliest_11 : decode b_Model_earliest 11 = .ok (.aload_n 0, 1) := by decide +kernel
theorem d_Model_earliest_12 : decode b_Model_earliest 12 = .ok (.getfield 71, 3) := by decide +kernel
theorem d_Model_earliest_15 : decode b_Model_earliest 15 = .ok (.isub, 1) := by decide +kernel
theorem d_Model_earliest_16 : decode b_Model_earliest 16 = .ok (.ireturn, 1) := by decide +kernel
def F_Model_earliest (R : Nat → Nat → Nat) (a0 : Nat) (x1 : Int32) (I : St) : Option Int32 := (chk x1 6 (some (((I a0 1) + (I (R a0 3) x1.toNatClampNeg)) - (I a0 0))))
set_option maxHeartbeats 4000000 in
set_option maxRecDepth 100000 in
theorem c_Model_earliest (l : Launch) {g : Sg} {R : Nat → Nat → Nat} (hT : Ty g R) {a0 : Nat} (o0 : okA g 5 0 a0) {x1 : Int32} {I : St} {v : Int32} (h : F_Model_earliest R a0 x1 I = some v) : Cti l g R y_Model_earliest w_Model_earliest 0 0 [.ref a0, .int x1] I v I := by
  unfold Cti
  refine Met.ofW (cc := b_Model_earliest) (maxL := 2) (ret := (some .int)) (by decide) rfl ?_
  intro p e s m args below meth c s₁ B hml hv
  obtain ⟨rfl, hP, hK⟩ := hv
  have hts := atoms_spec (ws := w_Model_earliest) B.pre
  have hall : ∀ w ∈ w_all, w.before _ s = true := fun w hw => hts w (List.mem_cons_of_mem _ hw)
  have hown : s.vm.findClass R_Model = some m.cls := findClass_of_methodNamed B.named
  have hx := B.exec
  have hb := B.bytes
  have hr := B.returns
  have hlk := B.notSynchronized
  have cx : Cx p s m _ meth c g R R_Model b_Model_earliest 2 (some .int) := ⟨hx, hb, hml, hr, hlk, hown, hall, hT, hK⟩
  have hl := lv_entry ([.ref a0, .int x1]) (n := 2) (Nat.le_of_ble_eq_true rfl)
  rw [lg_entry_eq]
  generalize (lg_sl ([.ref a0, .int x1]) ++ List.replicate (2 - (lg_sl ([.ref a0, .int x1])).length) Slot.unset).toArray = ls at hl ⊢
  have hl : lv_has ls 2 [(0, .ref a0), (1, .int x1)] := hl
  have hS : va_S (· ∈ g.L) s.heap s.heap [] := va_S.rf
  unfold F_Model_earliest at h
  refine lv_aload_n hx hb d_Model_earliest_0 rfl (lv_at hl 0 rfl) ?_
  refine gg_get (C := R_Model) (T := F_Model) (N := 23) (ci := 5) hx hb hall i_Model hown hK hP o0.1 (wE_5 o0.2) rfl 1 (by decide) (hall _ m_330) (fun _ h9 => h9) rfl d_Model_earliest_1 ?_
  refine lv_aload_n hx hb d_Model_earliest_4 rfl (lv_at hl 0 rfl) ?_
  refine gg_get (C := R_Model) (T := F_Model) (N := 23) (ci := 5) hx hb hall i_Model hown hK hP o0.1 (wE_5 o0.2) rfl 3 (by decide) (hall _ m_331) (fun _ h9 => h9) rfl d_Model_earliest_5 ?_
  have o_5 : okA g 6 6 (R a0 3) := ty_Model_3 hT o0
  refine lv_iload_n hx hb d_Model_earliest_8 rfl (lv_at hl 1 rfl) ?_
  obtain ⟨hi9, h⟩ := chk_el h
  refine gg_iald hx hb hK hP o_5 hi9 d_Model_earliest_9 ?_
  refine lv_iadd hx hb d_Model_earliest_10 ?_
  refine lv_aload_n hx hb d_Model_earliest_11 rfl (lv_at hl 0 rfl) ?_
  refine gg_get (C := R_Model) (T := F_Model) (N := 23) (ci := 5) hx hb hall i_Model hown hK hP o0.1 (wE_5 o0.2) rfl 0 (by decide) (hall _ m_332) (fun _ h9 => h9) rfl d_Model_earliest_12 ?_
  refine lv_isub hx hb d_Model_earliest_15 ?_
  obtain rfl := Option.some.inj h
  exact gg_iret hx hb hr hlk hK hP hS d_Model_earliest_16
abbrev b_Model_latest : ByteArray := prog_7_method_4_code
def y_Model_latest : MethodName := ⟨"StampedStoreModel", "latest", "(I)I"⟩
def w_Model_latest : List Cond := .code y_Model_latest b_Model_latest 2 (some .int) :: w_all
theorem d_Model_latest_0 : decode b_Model_latest 0 = .ok (.aload_n 0, 1) := by decide +kernel
theorem d_Model_latest_1 : decode b_Model_latest 1 = .ok (.getfield 75, 3) := by decide +kernel
theorem d_Model_latest_4 : decode b_Model_latest 4 = .ok (.aload_n 0, 1) := by decide +kernel
theorem d_Model_latest_5 : decode b_Model_latest 5 = .ok (.getfield 13, 3) := by decide +kernel
theorem d_Model_latest_8 : decode b_Model_latest 8 = .ok (.iload_n 1, 1) := by decide +kernel
theorem d_Model_latest_9 : decode b_Model_latest 9 = .ok (.iaload, 1) := by decide +kernel
theorem d_Model_latest_10 : decode b_Model_latest 10 = .ok (.iadd, 1) := by decide +kernel
theorem d_Model_latest_11 : decode b_Model_latest 11 = .ok (.aload_n 0, 1) := by decide +kernel
theorem d_Model_latest_12 : decode b_Model_latest 12 = .ok (.getfield 71, 3) := by decide +kernel
theorem d_Model_latest_15 : decode b_Model_latest 15 = .ok (.iadd, 1) := by decide +kernel
theorem d_Model_latest_16 : decode b_Model_latest 16 = .ok (.ireturn, 1) := by decide +kernel
def F_Model_latest (R : Nat → Nat → Nat) (a0 : Nat) (x1 : Int32) (I : St) : Option Int32 := (chk x1 6 (some (((I a0 1) + (I (R a0 3) x1.toNatClampNeg)) + (I a0 0))))
set_option maxHeartbeats 4000000 in
set_option maxRecDepth 100000 in
theorem c_Model_latest (l : Launch) {g : Sg} {R : Nat → Nat → Nat} (hT : Ty g R) {a0 : Nat} (o0 : okA g 5 0 a0) {x1 : Int32} {I : St} {v : Int32} (h : F_Model_latest R a0 x1 I = some v) : Cti l g R y_Model_latest w_Model_latest 0 0 [.ref a0, .int x1] I v I := by
  unfold Cti
  refine Met.ofW (cc := b_Model_latest) (maxL := 2) (ret := (some .int)) (by decide) rfl ?_
  intro p e s m args below meth c s₁ B hml hv
  obtain ⟨rfl, hP, hK⟩ := hv
  have hts := atoms_spec (ws := w_Model_latest) B.pre
  have hall : ∀ w ∈ w_all, w.before _ s = true := fun w hw => hts w (List.mem_cons_of_mem _ hw)
  have hown : s.vm.findClass R_Model = some m.cls := findClass_of_methodNamed B.named
  have hx := B.exec
  have hb := B.bytes
  have hr := B.returns
  have hlk := B.notSynchronized
  have cx : Cx p s m _ meth c g R R_Model b_Model_latest 2 (some .int) := ⟨hx, hb, hml, hr, hlk, hown, hall, hT, hK⟩
  have hl := lv_entry ([.ref a0, .int x1]) (n := 2) (Nat.le_of_ble_eq_true rfl)
  rw [lg_entry_eq]
  generalize (lg_sl ([.ref a0, .int x1]) ++ List.replicate (2 - (lg_sl ([.ref a0, .int x1])).length) Slot.unset).toArray = ls at hl ⊢
  have hl : lv_has ls 2 [(0, .ref a0), (1, .int x1)] := hl
  have hS : va_S (· ∈ g.L) s.heap s.heap [] := va_S.rf
  unfold F_Model_latest at h
  refine lv_aload_n hx hb d_Model_latest_0 rfl (lv_at hl 0 rfl) ?_
  refine gg_get (C := R_Model) (T := F_Model) (N := 23) (ci := 5) hx hb hall i_Model hown hK hP o0.1 (wE_5 o0.2) rfl 1 (by decide) (hall _ m_330) (fun _ h9 => h9) rfl d_Model_latest_1 ?_
  refine lv_aload_n hx hb d_Model_latest_4 rfl (lv_at hl 0 rfl) ?_
  refine gg_get (C := R_Model) (T := F_Model) (N := 23) (ci := 5) hx hb hall i_Model hown hK hP o0.1 (wE_5 o0.2) rfl 3 (by decide) (hall _ m_331) (fun _ h9 => h9) rfl d_Model_latest_5 ?_
  have o_5 : okA g 6 6 (R a0 3) := ty_Model_3 hT o0
  refine lv_iload_n hx hb d_Model_latest_8 rfl (lv_at hl 1 rfl) ?_
  obtain ⟨hi9, h⟩ := chk_el h
  refine gg_iald hx hb hK hP o_5 hi9 d_Model_latest_9 ?_
  refine lv_iadd hx hb d_Model_latest_10 ?_
  refine lv_aload_n hx hb d_Model_latest_11 rfl (lv_at hl 0 rfl) ?_
  refine gg_get (C := R_Model) (T := F_Model) (N := 23) (ci := 5) hx hb hall i_Model hown hK hP o0.1 (wE_5 o0.2) rfl 0 (by decide) (hall _ m_332) (fun _ h9 => h9) rfl d_Model_latest_12 ?_
  refine lv_iadd hx hb d_Model_latest_15 ?_
  obtain rfl := Option.some.inj h
  exact gg_iret hx hb hr hlk hK hP hS d_Model_latest_16
abbrev b_Model_tick : ByteArray := prog_7_method_5_code
def y_Model_tick : MethodName := ⟨"StampedStoreModel", "tick", "(I)I"⟩
def w_Model_tick : List Cond := .code y_Model_tick b_Model_tick 2 (some .int) :: w_all
theorem d_Model_tick_0 : decode b_Model_tick 0 = .ok (.iload_n 1, 1) := by decide +kernel
theorem d_Model_tick_1 : decode b_Model_tick 1 = .ok (.iconst 1, 1) := by decide +kernel
theorem d_Model_tick_2 : decode b_Model_tick 2 = .ok (.if_icmp .lt 9, 3) := by decide +kernel
theorem d_Model_tick_5 : decode b_Model_tick 5 = .ok (.iload_n 1, 1) := by decide +kernel
theorem d_Model_tick_6 : decode b_Model_tick 6 = .ok (.bipush 50, 2) := by decide +kernel
theorem d_Model_tick_8 : decode b_Model_tick 8 = .ok (.if_icmp .le 5, 3) := by decide +kernel
theorem d_Model_tick_11 : decode b_Model_tick 11 = .ok (.iconst (-1), 1) := by decide +kernel
theorem d_Model_tick_12 : decode b_Model_tick 12 = .ok (.ireturn, 1) := by decide +kernel
theorem d_Model_tick_13 : decode b_Model_tick 13 = .ok (.aload_n 0, 1) := by decide +kernel
theorem d_Model_tick_14 : decode b_Model_tick 14 = .ok (.dup, 1) := by decide +kernel
theorem d_Model_tick_15 : decode b_Model_tick 15 = .ok (.getfield 75, 3) := by decide +kernel
theorem d_Model_tick_18 : decode b_Model_tick 18 = .ok (.iload_n 1, 1) := by decide +kernel
theorem d_Model_tick_19 : decode b_Model_tick 19 = .ok (.iadd, 1) := by decide +kernel
theorem d_Model_tick_20 : decode b_Model_tick 20 = .ok (.putfield 75, 3) := by decide +kernel
theorem d_Model_tick_23 : decode b_Model_tick 23 = .ok (.aload_n 0, 1) := by decide +kernel
theorem d_Model_tick_24 : decode b_Model_tick 24 = .ok (.getfield 75, 3) := by decide +kernel
theorem d_Model_tick_27 : decode b_Model_tick 27 = .ok (.ireturn, 1) := by decide +kernel
def B_Model_tick_11 (R : Nat → Nat → Nat) (I : St) : Option (Int32 × St) := some ((-1 : Int32), I)
set_option maxHeartbeats 4000000 in
set_option maxRecDepth 100000 in
theorem b_Model_tick_11 {p : Program} {l : Launch} {e : Env} {s : State} {m : MethodId} {args : Array Value} {below : List Frame} {meth : Method} {c : Code} {g : Sg} {R : Nat → Nat → Nat} {J : St} {v : Int32} (cx : Cx p s m args meth c g R R_Model b_Model_tick 2 (some .int)) : ∀ (I : St) (H : Heap) (locs : List Loc) (ls : Array Slot), B_Model_tick_11 R I = some (v, J) → wW g R I H → va_S (· ∈ g.L) s.heap H locs → lv_has ls 2 [] → W p l e { frames := 0, cells := 0, slots := 0, locals := 0 } s m args below meth c H locs 0 0 (MQ below (Qi g R v J) args s 0 0 (· ∈ g.L)) (F0 m 11 ls []) := by
  have ⟨hx, hb, hml, hr, hlk, hown, hall, hT, hK⟩ := cx
  intro I H locs ls h hP hS hl
  unfold B_Model_tick_11 at h
  refine lv_iconst (v := (-1)) hx hb d_Model_tick_11 (by decide) ?_
  obtain ⟨rfl, rfl⟩ := rt_el h
  exact gg_iret hx hb hr hlk hK hP hS d_Model_tick_12
def F_Model_tick (R : Nat → Nat → Nat) (a0 : Nat) (x1 : Int32) (I : St) : Option (Int32 × St) := (if x1 < (1 : Int32) then B_Model_tick_11 R I else (if x1 ≤ (50 : Int32) then (ap (up2 I a0 1 ((I a0 1) + x1)) (fun I20 => some ((I20 a0 1), I20))) else B_Model_tick_11 R I))
set_option maxHeartbeats 4000000 in
set_option maxRecDepth 100000 in
theorem c_Model_tick (l : Launch) {g : Sg} {R : Nat → Nat → Nat} (hT : Ty g R) {a0 : Nat} (o0 : okA g 5 0 a0) {x1 : Int32} {I : St} {J : St} {v : Int32} (h : F_Model_tick R a0 x1 I = some (v, J)) : Cti l g R y_Model_tick w_Model_tick 0 0 [.ref a0, .int x1] I v J := by
  unfold Cti
  refine Met.ofW (cc := b_Model_tick) (maxL := 2) (ret := (some .int)) (by decide) rfl ?_
  intro p e s m args below meth c s₁ B hml hv
  obtain ⟨rfl, hP, hK⟩ := hv
  have hts := atoms_spec (ws := w_Model_tick) B.pre
  have hall : ∀ w ∈ w_all, w.before _ s = true := fun w hw => hts w (List.mem_cons_of_mem _ hw)
  have hown : s.vm.findClass R_Model = some m.cls := findClass_of_methodNamed B.named
  have hx := B.exec
  have hb := B.bytes
  have hr := B.returns
  have hlk := B.notSynchronized
  have cx : Cx p s m _ meth c g R R_Model b_Model_tick 2 (some .int) := ⟨hx, hb, hml, hr, hlk, hown, hall, hT, hK⟩
  have hl := lv_entry ([.ref a0, .int x1]) (n := 2) (Nat.le_of_ble_eq_true rfl)
  rw [lg_entry_eq]
  generalize (lg_sl ([.ref a0, .int x1]) ++ List.replicate (2 - (lg_sl ([.ref a0, .int x1])).length) Slot.unset).toArray = ls at hl ⊢
  have hl : lv_has ls 2 [(0, .ref a0), (1, .int x1)] := hl
  have hS : va_S (· ∈ g.L) s.heap s.heap [] := va_S.rf
  unfold F_Model_tick at h
  refine lv_iload_n hx hb d_Model_tick_0 rfl (lv_at hl 1 rfl) ?_
  refine lv_iconst (v := 1) hx hb d_Model_tick_1 (by decide) ?_
  refine lv_icmp_lt hx hb d_Model_tick_2 rfl (fun hc => ?_) (fun hc => ?_)
  · replace h := i_pos hc h
    exact b_Model_tick_11 cx _ _ _ _ h hP hS (lv_sub hl [] rfl)
  · replace h := i_neg hc h
    refine lv_iload_n hx hb d_Model_tick_5 rfl (lv_at hl 1 rfl) ?_
    refine lv_bipush (v := 50) hx hb d_Model_tick_6 (by decide) ?_
    refine lv_icmp_le hx hb d_Model_tick_8 rfl (fun hc => ?_) (fun hc => ?_)
    · replace h := i_pos hc h
      refine lv_aload_n hx hb d_Model_tick_13 rfl (lv_at hl 0 rfl) ?_
      refine lv_dup hx hb d_Model_tick_14 rfl ?_
      refine gg_get (C := R_Model) (T := F_Model) (N := 23) (ci := 5) hx hb hall i_Model hown hK hP o0.1 (wE_5 o0.2) rfl 1 (by decide) (hall _ m_330) (fun _ h9 => h9) rfl d_Model_tick_15 ?_
      refine lv_iload_n hx hb d_Model_tick_18 rfl (lv_at hl 1 rfl) ?_
      refine lv_iadd hx hb d_Model_tick_19 ?_
      refine gg_put (C := R_Model) (T := F_Model) (N := 23) (ci := 5) (ty := .int) hx hb hall i_Model t_Model t_Model_ok n_Model hown hT.1 hK hP hS o0.1 (wE_5 o0.2) rfl 1 (by decide) (hall _ m_330) (fun _ h9 => h9) rfl (by decide +kernel) rfl rfl (Nat.le_of_ble_eq_true rfl) (ws_Model_1 o0.2) d_Model_tick_20 (fun I20 H locs e20 hP hS => ?_)
      replace h := ap_el e20 h
      refine lv_aload_n hx hb d_Model_tick_23 rfl (lv_at hl 0 rfl) ?_
      refine gg_get (C := R_Model) (T := F_Model) (N := 23) (ci := 5) hx hb hall i_Model hown hK hP o0.1 (wE_5 o0.2) rfl 1 (by decide) (hall _ m_330) (fun _ h9 => h9) rfl d_Model_tick_24 ?_
      obtain ⟨rfl, rfl⟩ := rt_el h
      exact gg_iret hx hb hr hlk hK hP hS d_Model_tick_27
    · replace h := i_neg hc h
      exact b_Model_tick_11 cx _ _ _ _ h hP hS (lv_sub hl [] rfl)
abbrev b_Model_skew : ByteArray := prog_7_method_6_code
def y_Model_skew : MethodName := ⟨"StampedStoreModel", "skew", "(II)Z"⟩
def w_Model_skew : List Cond := .code y_Model_skew b_Model_skew 3 (some .boolean) :: w_all
theorem d_Model_skew_0 : decode b_Model_skew 0 = .ok (.iload_n 1, 1) := by decide +kernel
theorem d_Model_skew_1 : decode b_Model_skew 1 = .ok (.bipush 6, 2) := by decide +kernel
theorem d_Model_skew_3 : decode b_Model_skew 3 = .ok (.invokestatic 78, 3) := by decide +kernel
theorem d_Model_skew_6 : decode b_Model_skew 6 = .ok (.ifCond .eq 20, 3) := by decide +kernel
theorem d_Model_skew_9 : decode b_Model_skew 9 = .ok (.iload_n 2, 1) := by decide +kernel
theorem d_Model_skew_10 : decode b_Model_skew 10 = .ok (.aload_n 0, 1) := by decide +kernel
theorem d_Model_skew_11 : decode b_Model_skew 11 = .ok (.getfield 71, 3) := by decide +kernel
theorem d_Model_skew_14 : decode b_Model_skew 14 = .ok (.ineg, 1) := by decide +kernel
theorem d_Model_skew_15 : decode b_Model_skew 15 = .ok (.if_icmp .lt 11, 3) := by decide +kernel
theorem d_Model_skew_18 : decode b_Model_skew 18 = .ok (.iload_n 2, 1) := by decide +kernel
theorem d_Model_skew_19 : decode b_Model_skew 19 = .ok (.aload_n 0, 1) := by decide +kernel
theorem d_Model_skew_20 : decode b_Model_skew 20 = .ok (.getfield 71, 3) := by decide +kernel
theorem d_Model_skew_23 : decode b_Model_skew 23 = .ok (.if_icmp .le 5, 3) := by decide +kernel
theorem d_Model_skew_26 : decode b_Model_skew 26 = .ok (.iconst 0, 1) := by decide +kernel
theorem d_Model_skew_27 : decode b_Model_skew 27 = .ok (.ireturn, 1) := by decide +kernel
theorem d_Model_skew_28 : decode b_Model_skew 28 = .ok (.aload_n 0, 1) := by decide +kernel
theorem d_Model_skew_29 : decode b_Model_skew 29 = .ok (.getfield 13, 3) := by decide +kernel
theorem d_Model_skew_32 : decode b_Model_skew 32 = .ok (.iload_n 1, 1) := by decide +kernel
theorem d_Model_skew_33 : decode b_Model_skew 33 = .ok (.iload_n 2, 1) := by decide +kernel
theorem d_Model_skew_34 : decode b_Model_skew 34 = .ok (.iastore, 1) := by decide +kernel
theorem d_Model_skew_35 : decode b_Model_skew 35 = .ok (.iconst 1, 1) := by decide +kernel
theorem d_Model_skew_36 : decode b_Model_skew 36 = .ok (.ireturn, 1) := by decide +kernel
def B_Model_skew_26 (R : Nat → Nat → Nat) (I : St) : Option (Int32 × St) := some ((0 : Int32), I)
set_option maxHeartbeats 4000000 in
set_option maxRecDepth 100000 in
theorem b_Model_skew_26 {p : Program} {l : Launch} {e : Env} {s : State} {m : MethodId} {args : Array Value} {below : List Frame} {meth : Method} {c : Code} {g : Sg} {R : Nat → Nat → Nat} {J : St} {v : Int32} (cx : Cx p s m args meth c g R R_Model b_Model_skew 3 (some .boolean)) : ∀ (I : St) (H : Heap) (locs : List Loc) (ls : Array Slot), B_Model_skew_26 R I = some (v, J) → wW g R I H → va_S (· ∈ g.L) s.heap H locs → lv_has ls 3 [] → W p l e { frames := 1, cells := 0, slots := 0, locals := 21 } s m args below meth c H locs 0 0 (MQ below (Qi g R v J) args s 0 0 (· ∈ g.L)) (F0 m 26 ls []) := by
  have ⟨hx, hb, hml, hr, hlk, hown, hall, hT, hK⟩ := cx
  intro I H locs ls h hP hS hl
  unfold B_Model_skew_26 at h
  refine lv_iconst (v := 0) hx hb d_Model_skew_26 (by decide) ?_
  obtain ⟨rfl, rfl⟩ := rt_el h
  exact gg_zret hx hb hr hlk rfl hK hP hS d_Model_skew_27
def F_Model_skew (R : Nat → Nat → Nat) (a0 : Nat) (x1 : Int32) (x2 : Int32) (I : St) : Option (Int32 × St) := (ob (F_Model_below R x1 (6 : Int32) I) (fun v3 => (if v3 = 0 then B_Model_skew_26 R I else (if x2 < (-(I a0 0)) then B_Model_skew_26 R I else (if x2 ≤ (I a0 0) then (chk x1 6 (ap (up2 I (R a0 3) x1.toNatClampNeg x2) (fun I34 => some ((1 : Int32), I34)))) else B_Model_skew_26 R I)))))
set_option maxHeartbeats 4000000 in
set_option maxRecDepth 100000 in
theorem c_Model_skew (l : Launch) {g : Sg} {R : Nat → Nat → Nat} (hT : Ty g R) {a0 : Nat} (o0 : okA g 5 0 a0) {x1 : Int32} {x2 : Int32} {I : St} {J : St} {v : Int32} (h : F_Model_skew R a0 x1 x2 I = some (v, J)) : Cti l g R y_Model_skew w_Model_skew 1 21 [.ref a0, .int x1, .int x2] I v J := by
  unfold Cti
  refine Met.ofW (cc := b_Model_skew) (maxL := 3) (ret := (some .boolean)) (by decide) rfl ?_
  intro p e s m args below meth c s₁ B hml hv
  obtain ⟨rfl, hP, hK⟩ := hv
  have hts := atoms_spec (ws := w_Model_skew) B.pre
  have hall : ∀ w ∈ w_all, w.before _ s = true := fun w hw => hts w (List.mem_cons_of_mem _ hw)
  have hown : s.vm.findClass R_Model = some m.cls := findClass_of_methodNamed B.named
  have hx := B.exec
  have hb := B.bytes
  have hr := B.returns
  have hlk := B.notSynchronized
  have cx : Cx p s m _ meth c g R R_Model b_Model_skew 3 (some .boolean) := ⟨hx, hb, hml, hr, hlk, hown, hall, hT, hK⟩
  have hl := lv_entry ([.ref a0, .int x1, .int x2]) (n := 3) (Nat.le_of_ble_eq_true rfl)
  rw [lg_entry_eq]
  generalize (lg_sl ([.ref a0, .int x1, .int x2]) ++ List.replicate (3 - (lg_sl ([.ref a0, .int x1, .int x2])).length) Slot.unset).toArray = ls at hl ⊢
  have hl : lv_has ls 3 [(0, .ref a0), (1, .int x1), (2, .int x2)] := hl
  have hS : va_S (· ∈ g.L) s.heap s.heap [] := va_S.rf
  unfold F_Model_skew at h
  refine lv_iload_n hx hb d_Model_skew_0 rfl (lv_at hl 1 rfl) ?_
  refine lv_bipush (v := 6) hx hb d_Model_skew_1 (by decide) ?_
  obtain ⟨v3, e3, h⟩ := ob_el h
  refine gg_Si (As := [.int x1, .int (6 : Int32)]) (rest := []) ⟨hx, hb, hml, hown, hall⟩ (c_Model_below l hT e3) (cwS 2 hall (gS m_336 m_337 m_338 m_329) rfl rfl rfl (by decide +kernel) ⟨Nat.le_of_ble_eq_true rfl, Nat.le_of_ble_eq_true rfl⟩) hK hP hS rfl hl.1 rfl (Nat.le_of_ble_eq_true rfl) d_Model_skew_3 (fun H locs hP hS => ?_)
  refine lv_if_eq hx hb d_Model_skew_6 rfl (fun hc => ?_) (fun hc => ?_)
  · replace h := i_pos hc h
    exact b_Model_skew_26 cx _ _ _ _ h hP hS (lv_sub hl [] rfl)
  · replace h := i_neg hc h
    refine lv_iload_n hx hb d_Model_skew_9 rfl (lv_at hl 2 rfl) ?_
    refine lv_aload_n hx hb d_Model_skew_10 rfl (lv_at hl 0 rfl) ?_
    refine gg_get (C := R_Model) (T := F_Model) (N := 23) (ci := 5) hx hb hall i_Model hown hK hP o0.1 (wE_5 o0.2) rfl 0 (by decide) (hall _ m_332) (fun _ h9 => h9) rfl d_Model_skew_11 ?_
    refine lv_ineg hx hb d_Model_skew_14 ?_
    refine lv_icmp_lt hx hb d_Model_skew_15 rfl (fun hc => ?_) (fun hc => ?_)
    · replace h := i_pos hc h
      exact b_Model_skew_26 cx _ _ _ _ h hP hS (lv_sub hl [] rfl)
    · replace h := i_neg hc h
      refine lv_iload_n hx hb d_Model_skew_18 rfl (lv_at hl 2 rfl) ?_
      refine lv_aload_n hx hb d_Model_skew_19 rfl (lv_at hl 0 rfl) ?_
      refine gg_get (C := R_Model) (T := F_Model) (N := 23) (ci := 5) hx hb hall i_Model hown hK hP o0.1 (wE_5 o0.2) rfl 0 (by decide) (hall _ m_332) (fun _ h9 => h9) rfl d_Model_skew_20 ?_
      refine lv_icmp_le hx hb d_Model_skew_23 rfl (fun hc => ?_) (fun hc => ?_)
      · replace h := i_pos hc h
        refine lv_aload_n hx hb d_Model_skew_28 rfl (lv_at hl 0 rfl) ?_
        refine gg_get (C := R_Model) (T := F_Model) (N := 23) (ci := 5) hx hb hall i_Model hown hK hP o0.1 (wE_5 o0.2) rfl 3 (by decide) (hall _ m_331) (fun _ h9 => h9) rfl d_Model_skew_29 ?_
        have o_29 : okA g 6 6 (R a0 3) := ty_Model_3 hT o0
        refine lv_iload_n hx hb d_Model_skew_32 rfl (lv_at hl 1 rfl) ?_
        refine lv_iload_n hx hb d_Model_skew_33 rfl (lv_at hl 2 rfl) ?_
        obtain ⟨hi34, h⟩ := chk_el h
        refine gg_iast hx hb hT.1 hK hP hS o_29 hi34 d_Model_skew_34 (fun I34 H locs e34 hP hS => ?_)
        replace h := ap_el e34 h
        refine lv_iconst (v := 1) hx hb d_Model_skew_35 (by decide) ?_
        obtain ⟨rfl, rfl⟩ := rt_el h
        exact gg_zret hx hb hr hlk rfl hK hP hS d_Model_skew_36
      · replace h := i_neg hc h
        exact b_Model_skew_26 cx _ _ _ _ h hP hS (lv_sub hl [] rfl)
abbrev b_Model_crash : ByteArray := prog_7_method_7_code
def y_Model_crash : MethodName := ⟨"StampedStoreModel", "crash", "(I)Z"⟩
def w_Model_crash : List Cond := .code y_Model_crash b_Model_crash 2 (some .boolean) :: w_all
theorem d_Model_crash_0 : decode b_Model_crash 0 = .ok (.iload_n 1, 1) := by decide +kernel
theorem d_Model_crash_1 : decode b_Model_crash 1 = .ok (.bipush 6, 2) := by decide +kernel
theorem d_Model_crash_3 : decode b_Model_crash 3 = .ok (.invokestatic 78, 3) := by decide +kernel
theorem d_Model_crash_6 : decode b_Model_crash 6 = .ok (.ifCond .eq 12, 3) := by decide +kernel
theorem d_Model_crash_9 : decode b_Model_crash 9 = .ok (.aload_n 0, 1) := by decide +kernel
theorem d_Model_crash_10 : decode b_Model_crash 10 = .ok (.getfield 7, 3) := by decide +kernel
theorem d_Model_crash_13 : decode b_Model_crash 13 = .ok (.iload_n 1, 1) := by decide +kernel
theorem d_Model_crash_14 : decode b_Model_crash 14 = .ok (.baload, 1) := by decide +kernel
theorem d_Model_crash_15 : decode b_Model_crash 15 = .ok (.ifCond .eq 5, 3) := by decide +kernel
theorem d_Model_crash_18 : decode b_Model_crash 18 = .ok (.iconst 0, 1) := by decide +kernel
theorem d_Model_crash_19 : decode b_Model_crash 19 = .ok (.ireturn, 1) := by decide +kernel
theorem d_Model_crash_20 : decode b_Model_crash 20 = .ok (.aload_n 0, 1) := by decide +kernel
theorem d_Model_crash_21 : decode b_Model_crash 21 = .ok (.getfield 7, 3) := by decide +kernel
theorem d_Model_crash_24 : decode b_Model_crash 24 = .ok (.iload_n 1, 1) := by decide +kernel
theorem d_Model_crash_25 : decode b_Model_crash 25 = .ok (.iconst 1, 1) := by decide +kernel
theorem d_Model_crash_26 : decode b_Model_crash 26 = .ok (.bastore, 1) := by decide +kernel
theorem d_Model_crash_27 : decode b_Model_crash 27 = .ok (.aload_n 0, 1) := by decide +kernel
theorem d_Model_crash_28 : decode b_Model_crash 28 = .ok (.getfield 26, 3) := by decide +kernel
theorem d_Model_crash_31 : decode b_Model_crash 31 = .ok (.iload_n 1, 1) := by decide +kernel
theorem d_Model_crash_32 : decode b_Model_crash 32 = .ok (.iconst 0, 1) := by decide +kernel
theorem d_Model_crash_33 : decode b_Model_crash 33 = .ok (.bastore, 1) := by decide +kernel
theorem d_Model_crash_34 : decode b_Model_crash 34 = .ok (.iconst 1, 1) := by decide +kernel
theorem d_Model_crash_35 : decode b_Model_crash 35 = .ok (.ireturn, 1) := by decide +kernel
def B_Model_crash_18 (R : Nat → Nat → Nat) (I : St) : Option (Int32 × St) := some ((0 : Int32), I)
set_option maxHeartbeats 4000000 in
set_option maxRecDepth 100000 in
theorem b_Model_crash_18 {p : Program} {l : Launch} {e : Env} {s : State} {m : MethodId} {args : Array Value} {below : List Frame} {meth : Method} {c : Code} {g : Sg} {R : Nat → Nat → Nat} {J : St} {v : Int32} (cx : Cx p s m args meth c g R R_Model b_Model_crash 2 (some .boolean)) : ∀ (I : St) (H : Heap) (locs : List Loc) (ls : Array Slot), B_Model_crash_18 R I = some (v, J) → wW g R I H → va_S (· ∈ g.L) s.heap H locs → lv_has ls 2 [] → W p l e { frames := 1, cells := 0, slots := 0, locals := 21 } s m args below meth c H locs 0 0 (MQ below (Qi g R v J) args s 0 0 (· ∈ g.L)) (F0 m 18 ls []) := by
  have ⟨hx, hb, hml, hr, hlk, hown, hall, hT, hK⟩ := cx
  intro I H locs ls h hP hS hl
  unfold B_Model_crash_18 at h
  refine lv_iconst (v := 0) hx hb d_Model_crash_18 (by decide) ?_
  obtain ⟨rfl, rfl⟩ := rt_el h
  exact gg_zret hx hb hr hlk rfl hK hP hS d_Model_crash_19
def F_Model_crash (R : Nat → Nat → Nat) (a0 : Nat) (x1 : Int32) (I : St) : Option (Int32 × St) := (ob (F_Model_below R x1 (6 : Int32) I) (fun v3 => (if v3 = 0 then B_Model_crash_18 R I else (chk x1 6 ((if (I (R a0 2) x1.toNatClampNeg) = 0 then (chk x1 6 (ap (up2 I (R a0 2) x1.toNatClampNeg (vp_nar .boolean (1 : Int32))) (fun I26 => (chk x1 6 (ap (up2 I26 (R a0 7) x1.toNatClampNeg (vp_nar .boolean (0 : Int32))) (fun I33 => some ((1 : Int32), I33))))))) else B_Model_crash_18 R I))))))
set_option maxHeartbeats 4000000 in
set_option maxRecDepth 100000 in
theorem c_Model_crash (l : Launch) {g : Sg} {R : Nat → Nat → Nat} (hT : Ty g R) {a0 : Nat} (o0 : okA g 5 0 a0) {x1 : Int32} {I : St} {J : St} {v : Int32} (h : F_Model_crash R a0 x1 I = some (v, J)) : Cti l g R y_Model_crash w_Model_crash 1 21 [.ref a0, .int x1] I v J := by
  unfold Cti
  refine Met.ofW (cc := b_Model_crash) (maxL := 2) (ret := (some .boolean)) (by decide) rfl ?_
  intro p e s m args below meth c s₁ B hml hv
  obtain ⟨rfl, hP, hK⟩ := hv
  have hts := atoms_spec (ws := w_Model_crash) B.pre
  have hall : ∀ w ∈ w_all, w.before _ s = true := fun w hw => hts w (List.mem_cons_of_mem _ hw)
  have hown : s.vm.findClass R_Model = some m.cls := findClass_of_methodNamed B.named
  have hx := B.exec
  have hb := B.bytes
  have hr := B.returns
  have hlk := B.notSynchronized
  have cx : Cx p s m _ meth c g R R_Model b_Model_crash 2 (some .boolean) := ⟨hx, hb, hml, hr, hlk, hown, hall, hT, hK⟩
  have hl := lv_entry ([.ref a0, .int x1]) (n := 2) (Nat.le_of_ble_eq_true rfl)
  rw [lg_entry_eq]
  generalize (lg_sl ([.ref a0, .int x1]) ++ List.replicate (2 - (lg_sl ([.ref a0, .int x1])).length) Slot.unset).toArray = ls at hl ⊢
  have hl : lv_has ls 2 [(0, .ref a0), (1, .int x1)] := hl
  have hS : va_S (· ∈ g.L) s.heap s.heap [] := va_S.rf
  unfold F_Model_crash at h
  refine lv_iload_n hx hb d_Model_crash_0 rfl (lv_at hl 1 rfl) ?_
  refine lv_bipush (v := 6) hx hb d_Model_crash_1 (by decide) ?_
  obtain ⟨v3, e3, h⟩ := ob_el h
  refine gg_Si (As := [.int x1, .int (6 : Int32)]) (rest := []) ⟨hx, hb, hml, hown, hall⟩ (c_Model_below l hT e3) (cwS 2 hall (gS m_336 m_337 m_338 m_329) rfl rfl rfl (by decide +kernel) ⟨Nat.le_of_ble_eq_true rfl, Nat.le_of_ble_eq_true rfl⟩) hK hP hS rfl hl.1 rfl (Nat.le_of_ble_eq_true rfl) d_Model_crash_3 (fun H locs hP hS => ?_)
  refine lv_if_eq hx hb d_Model_crash_6 rfl (fun hc => ?_) (fun hc => ?_)
  · replace h := i_pos hc h
    exact b_Model_crash_18 cx _ _ _ _ h hP hS (lv_sub hl [] rfl)
  · replace h := i_neg hc h
    refine lv_aload_n hx hb d_Model_crash_9 rfl (lv_at hl 0 rfl) ?_
    refine gg_get (C := R_Model) (T := F_Model) (N := 23) (ci := 5) hx hb hall i_Model hown hK hP o0.1 (wE_5 o0.2) rfl 2 (by decide) (hall _ m_340) (fun _ h9 => h9) rfl d_Model_crash_10 ?_
    have o_10 : okA g 7 6 (R a0 2) := ty_Model_2 hT o0
    refine lv_iload_n hx hb d_Model_crash_13 rfl (lv_at hl 1 rfl) ?_
    obtain ⟨hi14, h⟩ := chk_el h
    refine gg_zald hx hb hK hP o_10 hi14 d_Model_crash_14 ?_
    refine lv_if_eq hx hb d_Model_crash_15 rfl (fun hc => ?_) (fun hc => ?_)
    · replace h := i_pos hc h
      refine lv_aload_n hx hb d_Model_crash_20 rfl (lv_at hl 0 rfl) ?_
      refine gg_get (C := R_Model) (T := F_Model) (N := 23) (ci := 5) hx hb hall i_Model hown hK hP o0.1 (wE_5 o0.2) rfl 2 (by decide) (hall _ m_340) (fun _ h9 => h9) rfl d_Model_crash_21 ?_
      have o_21 : okA g 7 6 (R a0 2) := ty_Model_2 hT o0
      refine lv_iload_n hx hb d_Model_crash_24 rfl (lv_at hl 1 rfl) ?_
      refine lv_iconst (v := 1) hx hb d_Model_crash_25 (by decide) ?_
      obtain ⟨hi26, h⟩ := chk_el h
      refine gg_zast hx hb hT.1 hK hP hS o_21 hi26 d_Model_crash_26 (fun I26 H locs e26 hP hS => ?_)
      replace h := ap_el e26 h
      refine lv_aload_n hx hb d_Model_crash_27 rfl (lv_at hl 0 rfl) ?_
      refine gg_get (C := R_Model) (T := F_Model) (N := 23) (ci := 5) hx hb hall i_Model hown hK hP o0.1 (wE_5 o0.2) rfl 7 (by decide) (hall _ m_341) (fun _ h9 => h9) rfl d_Model_crash_28 ?_
      have o_28 : okA g 7 6 (R a0 7) := ty_Model_7 hT o0
      refine lv_iload_n hx hb d_Model_crash_31 rfl (lv_at hl 1 rfl) ?_
      refine lv_iconst (v := 0) hx hb d_Model_crash_32 (by decide) ?_
      obtain ⟨hi33, h⟩ := chk_el h
      refine gg_zast hx hb hT.1 hK hP hS o_28 hi33 d_Model_crash_33 (fun I33 H locs e33 hP hS => ?_)
      replace h := ap_el e33 h
      refine lv_iconst (v := 1) hx hb d_Model_crash_34 (by decide) ?_
      obtain ⟨rfl, rfl⟩ := rt_el h
      exact gg_zret hx hb hr hlk rfl hK hP hS d_Model_crash_35
    · replace h := i_neg hc h
      exact b_Model_crash_18 cx _ _ _ _ h hP hS (lv_sub hl [] rfl)
abbrev b_Model_recover : ByteArray := prog_7_method_8_code
def y_Model_recover : MethodName := ⟨"StampedStoreModel", "recover", "(I)Z"⟩
def w_Model_recover : List Cond := .code y_Model_recover b_Model_recover 2 (some .boolean) :: w_all
theorem d_Model_recover_0 : decode b_Model_recover 0 = .ok (.iload_n 1, 1) := by decide +kernel
theorem d_Model_recover_1 : decode b_Model_recover 1 = .ok (.bipush 6, 2) := by decide +kernel
theorem d_Model_recover_3 : decode b_Model_recover 3 = .ok (.invokestatic 78, 3) := by decide +kernel
theorem d_Model_recover_6 : decode b_Model_recover 6 = .ok (.ifCond .eq 12, 3) := by decide +kernel
theorem d_Model_recover_9 : decode b_Model_recover 9 = .ok (.aload_n 0, 1) := by decide +kernel
theorem d_Model_recover_10 : decode b_Model_recover 10 = .ok (.getfield 7, 3) := by decide +kernel
theorem d_Model_recover_13 : decode b_Model_recover 13 = .ok (.iload_n 1, 1) := by decide +kernel
theorem d_Model_recover_14 : decode b_Model_recover 14 = .ok (.baload, 1) := by decide +kernel
theorem d_Model_recover_15 : decode b_Model_recover 15 = .ok (.ifCond .ne 5, 3) := by decide +kernel
theorem d_Model_recover_18 : decode b_Model_recover 18 = .ok (.iconst 0, 1) := by decide +kernel
theorem d_Model_recover_19 : decode b_Model_recover 19 = .ok (.ireturn, 1) := by decide +kernel
theorem d_Model_recover_20 : decode b_Model_recover 20 = .ok (.aload_n 0, 1) := by decide +kernel
theorem d_Model_recover_21 : decode b_Model_recover 21 = .ok (.getfield 7, 3) := by decide +kernel
theorem d_Model_recover_24 : decode b_Model_recover 24 = .ok (.iload_n 1, 1) := by decide +kernel
theorem d_Model_recover_25 : decode b_Model_recover 25 = .ok (.iconst 0, 1) := by decide +kernel
theorem d_Model_recover_26 : decode b_Model_recover 26 = .ok (.bastore, 1) := by decide +kernel
theorem d_Model_recover_27 : decode b_Model_recover 27 = .ok (.iconst 1, 1) := by decide +kernel
theorem d_Model_recover_28 : decode b_Model_recover 28 = .ok (.ireturn, 1) := by decide +kernel
def B_Model_recover_18 (R : Nat → Nat → Nat) (I : St) : Option (Int32 × St) := some ((0 : Int32), I)
set_option maxHeartbeats 4000000 in
set_option maxRecDepth 100000 in
theorem b_Model_recover_18 {p : Program} {l : Launch} {e : Env} {s : State} {m : MethodId} {args : Array Value} {below : List Frame} {meth : Method} {c : Code} {g : Sg} {R : Nat → Nat → Nat} {J : St} {v : Int32} (cx : Cx p s m args meth c g R R_Model b_Model_recover 2 (some .boolean)) : ∀ (I : St) (H : Heap) (locs : List Loc) (ls : Array Slot), B_Model_recover_18 R I = some (v, J) → wW g R I H → va_S (· ∈ g.L) s.heap H locs → lv_has ls 2 [] → W p l e { frames := 1, cells := 0, slots := 0, locals := 21 } s m args below meth c H locs 0 0 (MQ below (Qi g R v J) args s 0 0 (· ∈ g.L)) (F0 m 18 ls []) := by
  have ⟨hx, hb, hml, hr, hlk, hown, hall, hT, hK⟩ := cx
  intro I H locs ls h hP hS hl
  unfold B_Model_recover_18 at h
  refine lv_iconst (v := 0) hx hb d_Model_recover_18 (by decide) ?_
  obtain ⟨rfl, rfl⟩ := rt_el h
  exact gg_zret hx hb hr hlk rfl hK hP hS d_Model_recover_19
def F_Model_recover (R : Nat → Nat → Nat) (a0 : Nat) (x1 : Int32) (I : St) : Option (Int32 × St) := (ob (F_Model_below R x1 (6 : Int32) I) (fun v3 => (if v3 = 0 then B_Model_recover_18 R I else (chk x1 6 ((if (I (R a0 2) x1.toNatClampNeg) = 0 then B_Model_recover_18 R I else (chk x1 6 (ap (up2 I (R a0 2) x1.toNatClampNeg (vp_nar .boolean (0 : Int32))) (fun I26 => some ((1 : Int32), I26))))))))))
set_option maxHeartbeats 4000000 in
set_option maxRecDepth 100000 in
theorem c_Model_recover (l : Launch) {g : Sg} {R : Nat → Nat → Nat} (hT : Ty g R) {a0 : Nat} (o0 : okA g 5 0 a0) {x1 : Int32} {I : St} {J : St} {v : Int32} (h : F_Model_recover R a0 x1 I = some (v, J)) : Cti l g R y_Model_recover w_Model_recover 1 21 [.ref a0, .int x1] I v J := by
  unfold Cti
  refine Met.ofW (cc := b_Model_recover) (maxL := 2) (ret := (some .boolean)) (by decide) rfl ?_
  intro p e s m args below meth c s₁ B hml hv
  obtain ⟨rfl, hP, hK⟩ := hv
  have hts := atoms_spec (ws := w_Model_recover) B.pre
  have hall : ∀ w ∈ w_all, w.before _ s = true := fun w hw => hts w (List.mem_cons_of_mem _ hw)
  have hown : s.vm.findClass R_Model = some m.cls := findClass_of_methodNamed B.named
  have hx := B.exec
  have hb := B.bytes
  have hr := B.returns
  have hlk := B.notSynchronized
  have cx : Cx p s m _ meth c g R R_Model b_Model_recover 2 (some .boolean) := ⟨hx, hb, hml, hr, hlk, hown, hall, hT, hK⟩
  have hl := lv_entry ([.ref a0, .int x1]) (n := 2) (Nat.le_of_ble_eq_true rfl)
  rw [lg_entry_eq]
  generalize (lg_sl ([.ref a0, .int x1]) ++ List.replicate (2 - (lg_sl ([.ref a0, .int x1])).length) Slot.unset).toArray = ls at hl ⊢
  have hl : lv_has ls 2 [(0, .ref a0), (1, .int x1)] := hl
  have hS : va_S (· ∈ g.L) s.heap s.heap [] := va_S.rf
  unfold F_Model_recover at h
  refine lv_iload_n hx hb d_Model_recover_0 rfl (lv_at hl 1 rfl) ?_
  refine lv_bipush (v := 6) hx hb d_Model_recover_1 (by decide) ?_
  obtain ⟨v3, e3, h⟩ := ob_el h
  refine gg_Si (As := [.int x1, .int (6 : Int32)]) (rest := []) ⟨hx, hb, hml, hown, hall⟩ (c_Model_below l hT e3) (cwS 2 hall (gS m_336 m_337 m_338 m_329) rfl rfl rfl (by decide +kernel) ⟨Nat.le_of_ble_eq_true rfl, Nat.le_of_ble_eq_true rfl⟩) hK hP hS rfl hl.1 rfl (Nat.le_of_ble_eq_true rfl) d_Model_recover_3 (fun H locs hP hS => ?_)
  refine lv_if_eq hx hb d_Model_recover_6 rfl (fun hc => ?_) (fun hc => ?_)
  · replace h := i_pos hc h
    exact b_Model_recover_18 cx _ _ _ _ h hP hS (lv_sub hl [] rfl)
  · replace h := i_neg hc h
    refine lv_aload_n hx hb d_Model_recover_9 rfl (lv_at hl 0 rfl) ?_
    refine gg_get (C := R_Model) (T := F_Model) (N := 23) (ci := 5) hx hb hall i_Model hown hK hP o0.1 (wE_5 o0.2) rfl 2 (by decide) (hall _ m_340) (fun _ h9 => h9) rfl d_Model_recover_10 ?_
    have o_10 : okA g 7 6 (R a0 2) := ty_Model_2 hT o0
    refine lv_iload_n hx hb d_Model_recover_13 rfl (lv_at hl 1 rfl) ?_
    obtain ⟨hi14, h⟩ := chk_el h
    refine gg_zald hx hb hK hP o_10 hi14 d_Model_recover_14 ?_
    refine lv_if_ne hx hb d_Model_recover_15 rfl (fun hc => ?_) (fun hc => ?_)
    · replace h := i_neg hc h
      refine lv_aload_n hx hb d_Model_recover_20 rfl (lv_at hl 0 rfl) ?_
      refine gg_get (C := R_Model) (T := F_Model) (N := 23) (ci := 5) hx hb hall i_Model hown hK hP o0.1 (wE_5 o0.2) rfl 2 (by decide) (hall _ m_340) (fun _ h9 => h9) rfl d_Model_recover_21 ?_
      have o_21 : okA g 7 6 (R a0 2) := ty_Model_2 hT o0
      refine lv_iload_n hx hb d_Model_recover_24 rfl (lv_at hl 1 rfl) ?_
      refine lv_iconst (v := 0) hx hb d_Model_recover_25 (by decide) ?_
      obtain ⟨hi26, h⟩ := chk_el h
      refine gg_zast hx hb hT.1 hK hP hS o_21 hi26 d_Model_recover_26 (fun I26 H locs e26 hP hS => ?_)
      replace h := ap_el e26 h
      refine lv_iconst (v := 1) hx hb d_Model_recover_27 (by decide) ?_
      obtain ⟨rfl, rfl⟩ := rt_el h
      exact gg_zret hx hb hr hlk rfl hK hP hS d_Model_recover_28
    · replace h := i_pos hc h
      exact b_Model_recover_18 cx _ _ _ _ h hP hS (lv_sub hl [] rfl)
abbrev b_Model_isActive : ByteArray := prog_7_method_9_code
def y_Model_isActive : MethodName := ⟨"StampedStoreModel", "isActive", "(I)Z"⟩
def w_Model_isActive : List Cond := .code y_Model_isActive b_Model_isActive 2 (some .boolean) :: w_all
theorem d_Model_isActive_0 : decode b_Model_isActive 0 = .ok (.aload_n 0, 1) := by decide +kernel
theorem d_Model_isActive_1 : decode b_Model_isActive 1 = .ok (.getfield 26, 3) := by decide +kernel
theorem d_Model_isActive_4 : decode b_Model_isActive 4 = .ok (.iload_n 1, 1) := by decide +kernel
theorem d_Model_isActive_5 : decode b_Model_isActive 5 = .ok (.baload, 1) := by decide +kernel
theorem d_Model_isActive_6 : decode b_Model_isActive 6 = .ok (.ifCond .eq 21, 3) := by decide +kernel
theorem d_Model_isActive_9 : decode b_Model_isActive 9 = .ok (.aload_n 0, 1) := by decide +kernel
theorem d_Model_isActive_10 : decode b_Model_isActive 10 = .ok (.iload_n 1, 1) := by decide +kernel
theorem d_Model_isActive_11 : decode b_Model_isActive 11 = .ok (.invokevirtual 82, 3) := by decide +kernel
theorem d_Model_isActive_14 : decode b_Model_isActive 14 = .ok (.aload_n 0, 1) := by decide +kernel
theorem d_Model_isActive_15 : decode b_Model_isActive 15 = .ok (.getfield 29, 3) := by decide +kernel
theorem d_Model_isActive_18 : decode b_Model_isActive 18 = .ok (.iload_n 1, 1) := by decide +kernel
theorem d_Model_isActive_19 : decode b_Model_isActive 19 = .ok (.iaload, 1) := by decide +kernel
theorem d_Model_isActive_20 : decode b_Model_isActive 20 = .ok (.if_icmp .ge 7, 3) := by decide +kernel
theorem d_Model_isActive_23 : decode b_Model_isActive 23 = .ok (.iconst 1, 1) := by decide +kernel
theorem d_Model_isActive_24 : decode b_Model_isActive 24 = .ok (.goto 4, 3) := by decide +kernel
theorem d_Model_isActive_27 : decode b_Model_isActive 27 = .ok (.iconst 0, 1) := by decide +kernel
theorem d_Model_isActive_28 : decode b_Model_isActive 28 = .ok (.ireturn, 1) := by decide +kernel
def B_Model_isActive_27 (R : Nat → Nat → Nat) (I : St) : Option Int32 := some (0 : Int32)
set_option maxHeartbeats 4000000 in
set_option maxRecDepth 100000 in
theorem b_Model_isActive_27 {p : Program} {l : Launch} {e : Env} {s : State} {m : MethodId} {args : Array Value} {below : List Frame} {meth : Method} {c : Code} {g : Sg} {R : Nat → Nat → Nat} {I : St} {v : Int32} (cx : Cx p s m args meth c g R R_Model b_Model_isActive 2 (some .boolean)) : ∀ (H : Heap) (locs : List Loc) (ls : Array Slot), B_Model_isActive_27 R I = some v → wW g R I H → va_S (· ∈ g.L) s.heap H locs → lv_has ls 2 [] → W p l e { frames := 1, cells := 0, slots := 0, locals := 21 } s m args below meth c H locs 0 0 (MQ below (Qi g R v I) args s 0 0 (· ∈ g.L)) (F0 m 27 ls []) := by
  have ⟨hx, hb, hml, hr, hlk, hown, hall, hT, hK⟩ := cx
  intro H locs ls h hP hS hl
  unfold B_Model_isActive_27 at h
  refine lv_iconst (v := 0) hx hb d_Model_isActive_27 (by decide) ?_
  obtain rfl := Option.some.inj h
  exact gg_zret hx hb hr hlk rfl hK hP hS d_Model_isActive_28
def F_Model_isActive (R : Nat → Nat → Nat) (a0 : Nat) (x1 : Int32) (I : St) : Option Int32 := (chk x1 6 ((if (I (R a0 7) x1.toNatClampNeg) = 0 then B_Model_isActive_27 R I else (ob (F_Model_latest R a0 x1 I) (fun v11 => (chk x1 6 ((if (I (R a0 8) x1.toNatClampNeg) ≤ v11 then B_Model_isActive_27 R I else some (1 : Int32)))))))))
set_option maxHeartbeats 4000000 in
set_option maxRecDepth 100000 in
theorem c_Model_isActive (l : Launch) {g : Sg} {R : Nat → Nat → Nat} (hT : Ty g R) {a0 : Nat} (o0 : okA g 5 0 a0) {x1 : Int32} {I : St} {v : Int32} (h : F_Model_isActive R a0 x1 I = some v) : Cti l g R y_Model_isActive w_Model_isActive 1 21 [.ref a0, .int x1] I v I := by
  unfold Cti
  refine Met.ofW (cc := b_Model_isActive) (maxL := 2) (ret := (some .boolean)) (by decide) rfl ?_
  intro p e s m args below meth c s₁ B hml hv
  obtain ⟨rfl, hP, hK⟩ := hv
  have hts := atoms_spec (ws := w_Model_isActive) B.pre
  have hall : ∀ w ∈ w_all, w.before _ s = true := fun w hw => hts w (List.mem_cons_of_mem _ hw)
  have hown : s.vm.findClass R_Model = some m.cls := findClass_of_methodNamed B.named
  have hx := B.exec
  have hb := B.bytes
  have hr := B.returns
  have hlk := B.notSynchronized
  have cx : Cx p s m _ meth c g R R_Model b_Model_isActive 2 (some .boolean) := ⟨hx, hb, hml, hr, hlk, hown, hall, hT, hK⟩
  have hl := lv_entry ([.ref a0, .int x1]) (n := 2) (Nat.le_of_ble_eq_true rfl)
  rw [lg_entry_eq]
  generalize (lg_sl ([.ref a0, .int x1]) ++ List.replicate (2 - (lg_sl ([.ref a0, .int x1])).length) Slot.unset).toArray = ls at hl ⊢
  have hl : lv_has ls 2 [(0, .ref a0), (1, .int x1)] := hl
  have hS : va_S (· ∈ g.L) s.heap s.heap [] := va_S.rf
  unfold F_Model_isActive at h
  refine lv_aload_n hx hb d_Model_isActive_0 rfl (lv_at hl 0 rfl) ?_
  refine gg_get (C := R_Model) (T := F_Model) (N := 23) (ci := 5) hx hb hall i_Model hown hK hP o0.1 (wE_5 o0.2) rfl 7 (by decide) (hall _ m_341) (fun _ h9 => h9) rfl d_Model_isActive_1 ?_
  have o_1 : okA g 7 6 (R a0 7) := ty_Model_7 hT o0
  refine lv_iload_n hx hb d_Model_isActive_4 rfl (lv_at hl 1 rfl) ?_
  obtain ⟨hi5, h⟩ := chk_el h
  refine gg_zald hx hb hK hP o_1 hi5 d_Model_isActive_5 ?_
  refine lv_if_eq hx hb d_Model_isActive_6 rfl (fun hc => ?_) (fun hc => ?_)
  · replace h := i_pos hc h
    exact b_Model_isActive_27 cx _ _ _ h hP hS (lv_sub hl [] rfl)
  · replace h := i_neg hc h
    refine lv_aload_n hx hb d_Model_isActive_9 rfl (lv_at hl 0 rfl) ?_
    refine lv_iload_n hx hb d_Model_isActive_10 rfl (lv_at hl 1 rfl) ?_
    obtain ⟨v11, e11, h⟩ := ob_el h
    refine gg_Vi (As := [.int x1]) (rest := []) (ci := 5) (C := R_Model) (T := F_Model) (N := 23) ⟨hx, hb, hml, hown, hall⟩ (c_Model_latest l hT o0 e11) (cwV 1 hall (gV m_344 m_345 m_346 m_338 m_334) rfl rfl rfl (by decide +kernel) ⟨Nat.le_of_ble_eq_true rfl, Nat.le_of_ble_eq_true rfl⟩) hK hP hS o0.1 (wE_5 o0.2) rfl rfl hl.1 rfl (Nat.le_of_ble_eq_true rfl) d_Model_isActive_11 (fun H locs hP hS => ?_)
    refine lv_aload_n hx hb d_Model_isActive_14 rfl (lv_at hl 0 rfl) ?_
    refine gg_get (C := R_Model) (T := F_Model) (N := 23) (ci := 5) hx hb hall i_Model hown hK hP o0.1 (wE_5 o0.2) rfl 8 (by decide) (hall _ m_347) (fun _ h9 => h9) rfl d_Model_isActive_15 ?_
    have o_15 : okA g 6 6 (R a0 8) := ty_Model_8 hT o0
    refine lv_iload_n hx hb d_Model_isActive_18 rfl (lv_at hl 1 rfl) ?_
    obtain ⟨hi19, h⟩ := chk_el h
    refine gg_iald hx hb hK hP o_15 hi19 d_Model_isActive_19 ?_
    refine lv_icmp_ge hx hb d_Model_isActive_20 rfl (fun hc => ?_) (fun hc => ?_)
    · replace h := i_pos hc h
      exact b_Model_isActive_27 cx _ _ _ h hP hS (lv_sub hl [] rfl)
    · replace h := i_neg hc h
      refine lv_iconst (v := 1) hx hb d_Model_isActive_23 (by decide) ?_
      refine lv_goto hx hb d_Model_isActive_24 rfl ?_
      obtain rfl := Option.some.inj h
      exact gg_zret hx hb hr hlk rfl hK hP hS d_Model_isActive_28
abbrev b_Model_isReady : ByteArray := prog_7_method_10_code
def y_Model_isReady : MethodName := ⟨"StampedStoreModel", "isReady", "(I)Z"⟩
def w_Model_isReady : List Cond := .code y_Model_isReady b_Model_isReady 4 (some .boolean) :: w_all
theorem d_Model_isReady_0 : decode b_Model_isReady 0 = .ok (.iconst 0, 1) := by decide +kernel
theorem d_Model_isReady_1 : decode b_Model_isReady 1 = .ok (.istore_n 2, 1) := by decide +kernel
theorem d_Model_isReady_2 : decode b_Model_isReady 2 = .ok (.iconst 0, 1) := by decide +kernel
theorem d_Model_isReady_3 : decode b_Model_isReady 3 = .ok (.istore_n 3, 1) := by decide +kernel
theorem d_Model_isReady_4 : decode b_Model_isReady 4 = .ok (.iload_n 3, 1) := by decide +kernel
theorem d_Model_isReady_5 : decode b_Model_isReady 5 = .ok (.aload_n 0, 1) := by decide +kernel
theorem d_Model_isReady_6 : decode b_Model_isReady 6 = .ok (.getfield 35, 3) := by decide +kernel
theorem d_Model_isReady_9 : decode b_Model_isReady 9 = .ok (.iload_n 1, 1) := by decide +kernel
theorem d_Model_isReady_10 : decode b_Model_isReady 10 = .ok (.iaload, 1) := by decide +kernel
theorem d_Model_isReady_11 : decode b_Model_isReady 11 = .ok (.if_icmp .ge 39, 3) := by decide +kernel
theorem d_Model_isReady_14 : decode b_Model_isReady 14 = .ok (.iload_n 2, 1) := by decide +kernel
theorem d_Model_isReady_15 : decode b_Model_isReady 15 = .ok (.ifCond .ne 23, 3) := by decide +kernel
theorem d_Model_isReady_18 : decode b_Model_isReady 18 = .ok (.aload_n 0, 1) := by decide +kernel
theorem d_Model_isReady_19 : decode b_Model_isReady 19 = .ok (.getfield 38, 3) := by decide +kernel
theorem d_Model_isReady_22 : decode b_Model_isReady 22 = .ok (.bipush 60, 2) := by decide +kernel
theorem d_Model_isReady_24 : decode b_Model_isReady 24 = .ok (.iload_n 1, 1) := by decide +kernel
theorem d_Model_isReady_25 : decode b_Model_isReady 25 = .ok (.imul, 1) := by decide +kernel
theorem d_Model_isReady_26 : decode b_Model_isReady 26 = .ok (.iload_n 3, 1) := by decide +kernel
theorem d_Model_isReady_27 : decode b_Model_isReady 27 = .ok (.iadd, 1) := by decide +kernel
theorem d_Model_isReady_28 : decode b_Model_isReady 28 = .ok (.iaload, 1) := by decide +kernel
theorem d_Model_isReady_29 : decode b_Model_isReady 29 = .ok (.aload_n 0, 1) := by decide +kernel
theorem d_Model_isReady_30 : decode b_Model_isReady 30 = .ok (.getfield 17, 3) := by decide +kernel
theorem d_Model_isReady_33 : decode b_Model_isReady 33 = .ok (.iload_n 1, 1) := by decide +kernel
theorem d_Model_isReady_34 : decode b_Model_isReady 34 = .ok (.iaload, 1) := by decide +kernel
theorem d_Model_isReady_35 : decode b_Model_isReady 35 = .ok (.if_icmp .ne 7, 3) := by decide +kernel
theorem d_Model_isReady_38 : decode b_Model_isReady 38 = .ok (.iconst 1, 1) := by decide +kernel
theorem d_Model_isReady_39 : decode b_Model_isReady 39 = .ok (.goto 4, 3) := by decide +kernel
theorem d_Model_isReady_42 : decode b_Model_isReady 42 = .ok (.iconst 0, 1) := by decide +kernel
theorem d_Model_isReady_43 : decode b_Model_isReady 43 = .ok (.istore_n 2, 1) := by decide +kernel
theorem d_Model_isReady_44 : decode b_Model_isReady 44 = .ok (.iinc 3 1, 3) := by decide +kernel
theorem d_Model_isReady_47 : decode b_Model_isReady 47 = .ok (.goto (-43), 3) := by decide +kernel
theorem d_Model_isReady_50 : decode b_Model_isReady 50 = .ok (.iload_n 2, 1) := by decide +kernel
theorem d_Model_isReady_51 : decode b_Model_isReady 51 = .ok (.ifCond .eq 15, 3) := by decide +kernel
theorem d_Model_isReady_54 : decode b_Model_isReady 54 = .ok (.aload_n 0, 1) := by decide +kernel
theorem d_Model_isReady_55 : decode b_Model_isReady 55 = .ok (.iload_n 1, 1) := by decide +kernel
theorem d_Model_isReady_56 : decode b_Model_isReady 56 = .ok (.invokevirtual 86, 3) := by decide +kernel
theorem d_Model_isReady_59 : decode b_Model_isReady 59 = .ok (.ifCond .eq 7, 3) := by decide +kernel
theorem d_Model_isReady_62 : decode b_Model_isReady 62 = .ok (.iconst 1, 1) := by decide +kernel
theorem d_Model_isReady_63 : decode b_Model_isReady 63 = .ok (.goto 4, 3) := by decide +kernel
theorem d_Model_isReady_66 : decode b_Model_isReady 66 = .ok (.iconst 0, 1) := by decide +kernel
theorem d_Model_isReady_67 : decode b_Model_isReady 67 = .ok (.ireturn, 1) := by decide +kernel
def B_Model_isReady_43 (R : Nat → Nat → Nat) (I : St) (k4 : Nat → Int32 → Int32 → Int32 → Option Int32) (a0 : Nat) (x1 : Int32) (x3 : Int32) (t0 : Int32) : Option Int32 := k4 a0 x1 t0 (x3 + 1)
set_option maxHeartbeats 4000000 in
set_option maxRecDepth 100000 in
theorem b_Model_isReady_43 {p : Program} {l : Launch} {e : Env} {s : State} {m : MethodId} {args : Array Value} {below : List Frame} {meth : Method} {c : Code} {g : Sg} {R : Nat → Nat → Nat} {I : St} {v : Int32} (cx : Cx p s m args meth c g R R_Model b_Model_isReady 4 (some .boolean)) {k4 : Nat → Int32 → Int32 → Int32 → Option Int32} (hk4 : ∀ (a0 : Nat) (x1 : Int32) (x2 : Int32) (x3 : Int32) (H : Heap) (locs : List Loc) (ls : Array Slot), okA g 5 0 a0 → k4 a0 x1 x2 x3 = some v → wW g R I H → va_S (· ∈ g.L) s.heap H locs → lv_has ls 4 [(0, .ref a0), (1, .int x1), (2, .int x2), (3, .int x3)] → W p l e { frames := 2, cells := 0, slots := 0, locals := 42 } s m args below meth c H locs 0 0 (MQ below (Qi g R v I) args s 0 0 (· ∈ g.L)) (F0 m 4 ls [])) : ∀ (a0 : Nat) (x1 : Int32) (x3 : Int32) (t0 : Int32) (H : Heap) (locs : List Loc) (ls : Array Slot), okA g 5 0 a0 → B_Model_isReady_43 R I k4 a0 x1 x3 t0 = some v → wW g R I H → va_S (· ∈ g.L) s.heap H locs → lv_has ls 4 [(0, .ref a0), (1, .int x1), (3, .int x3)] → W p l e { frames := 2, cells := 0, slots := 0, locals := 42 } s m args below meth c H locs 0 0 (MQ below (Qi g R v I) args s 0 0 (· ∈ g.L)) (F0 m 43 ls [.int t0]) := by
  have ⟨hx, hb, hml, hr, hlk, hown, hall, hT, hK⟩ := cx
  intro a0 x1 x3 t0 H locs ls o0 h hP hS hl
  unfold B_Model_isReady_43 at h
  refine lv_istore_n (lv' := [(2, .int t0), (0, .ref a0), (1, .int x1), (3, .int x3)]) hx hb d_Model_isReady_43 rfl hl (Nat.le_of_ble_eq_true rfl) rfl (fun ls hl => ?_)
  refine lv_iinc (k := 3) (v := (x3 + 1)) (lv' := [(3, .int (x3 + 1)), (2, .int t0), (0, .ref a0), (1, .int x1)]) hx hb d_Model_isReady_44 hl rfl (by rw [show Int32.ofInt 1 = (1 : Int32) from by decide]) (Nat.le_of_ble_eq_true rfl) rfl (fun ls hl => ?_)
  refine lv_goto hx hb d_Model_isReady_47 rfl ?_
  exact hk4 _ _ _ _ _ _ _ o0 h hP hS (lv_sub hl [2, 3, 1, 0] rfl)
def B_Model_isReady_38 (R : Nat → Nat → Nat) (I : St) (k4 : Nat → Int32 → Int32 → Int32 → Option Int32) (a0 : Nat) (x1 : Int32) (x3 : Int32) : Option Int32 := B_Model_isReady_43 R I k4 a0 x1 x3 (1 : Int32)
set_option maxHeartbeats 4000000 in
set_option maxRecDepth 100000 in
theorem b_Model_isReady_38 {p : Program} {l : Launch} {e : Env} {s : State} {m : MethodId} {args : Array Value} {below : List Frame} {meth : Method} {c : Code} {g : Sg} {R : Nat → Nat → Nat} {I : St} {v : Int32} (cx : Cx p s m args meth c g R R_Model b_Model_isReady 4 (some .boolean)) {k4 : Nat → Int32 → Int32 → Int32 → Option Int32} (hk4 : ∀ (a0 : Nat) (x1 : Int32) (x2 : Int32) (x3 : Int32) (H : Heap) (locs : List Loc) (ls : Array Slot), okA g 5 0 a0 → k4 a0 x1 x2 x3 = some v → wW g R I H → va_S (· ∈ g.L) s.heap H locs → lv_has ls 4 [(0, .ref a0), (1, .int x1), (2, .int x2), (3, .int x3)] → W p l e { frames := 2, cells := 0, slots := 0, locals := 42 } s m args below meth c H locs 0 0 (MQ below (Qi g R v I) args s 0 0 (· ∈ g.L)) (F0 m 4 ls [])) : ∀ (a0 : Nat) (x1 : Int32) (x3 : Int32) (H : Heap) (locs : List Loc) (ls : Array Slot), okA g 5 0 a0 → B_Model_isReady_38 R I k4 a0 x1 x3 = some v → wW g R I H → va_S (· ∈ g.L) s.heap H locs → lv_has ls 4 [(0, .ref a0), (1, .int x1), (3, .int x3)] → W p l e { frames := 2, cells := 0, slots := 0, locals := 42 } s m args below meth c H locs 0 0 (MQ below (Qi g R v I) args s 0 0 (· ∈ g.L)) (F0 m 38 ls []) := by
  have ⟨hx, hb, hml, hr, hlk, hown, hall, hT, hK⟩ := cx
  intro a0 x1 x3 H locs ls o0 h hP hS hl
  unfold B_Model_isReady_38 at h
  refine lv_iconst (v := 1) hx hb d_Model_isReady_38 (by decide) ?_
  refine lv_goto hx hb d_Model_isReady_39 rfl ?_
  exact b_Model_isReady_43 cx hk4 _ _ _ _ _ _ _ o0 h hP hS (lv_sub hl [0, 1, 2] rfl)
def B_Model_isReady_66 (R : Nat → Nat → Nat) (I : St) : Option Int32 := some (0 : Int32)
set_option maxHeartbeats 4000000 in
set_option maxRecDepth 100000 in
theorem b_Model_isReady_66 {p : Program} {l : Launch} {e : Env} {s : State} {m : MethodId} {args : Array Value} {below : List Frame} {meth : Method} {c : Code} {g : Sg} {R : Nat → Nat → Nat} {I : St} {v : Int32} (cx : Cx p s m args meth c g R R_Model b_Model_isReady 4 (some .boolean)) : ∀ (H : Heap) (locs : List Loc) (ls : Array Slot), B_Model_isReady_66 R I = some v → wW g R I H → va_S (· ∈ g.L) s.heap H locs → lv_has ls 4 [] → W p l e { frames := 2, cells := 0, slots := 0, locals := 42 } s m args below meth c H locs 0 0 (MQ below (Qi g R v I) args s 0 0 (· ∈ g.L)) (F0 m 66 ls []) := by
  have ⟨hx, hb, hml, hr, hlk, hown, hall, hT, hK⟩ := cx
  intro H locs ls h hP hS hl
  unfold B_Model_isReady_66 at h
  refine lv_iconst (v := 0) hx hb d_Model_isReady_66 (by decide) ?_
  obtain rfl := Option.some.inj h
  exact gg_zret hx hb hr hlk rfl hK hP hS d_Model_isReady_67
def B_Model_isReady_4 (R : Nat → Nat → Nat) (I : St) : Nat → Nat → Int32 → Int32 → Int32 → Option Int32
  | 0, _, _, _, _ => none
  | f + 1, a0, x1, x2, x3 => (chk x1 6 ((if (I (R a0 10) x1.toNatClampNeg) ≤ x3 then (if x2 = 0 then B_Model_isReady_66 R I else (ob (F_Model_isActive R a0 x1 I) (fun v56 => (if v56 = 0 then B_Model_isReady_66 R I else some (1 : Int32))))) else (if x2 = 0 then (chk (((60 : Int32) * x1) + x3) 360 ((chk x1 6 ((if (I (R a0 11) (((60 : Int32) * x1) + x3).toNatClampNeg) = (I (R a0 4) x1.toNatClampNeg) then B_Model_isReady_38 R I (B_Model_isReady_4 R I f) a0 x1 x3 else B_Model_isReady_43 R I (B_Model_isReady_4 R I f) a0 x1 x3 (0 : Int32)))))) else B_Model_isReady_38 R I (B_Model_isReady_4 R I f) a0 x1 x3))))
set_option maxHeartbeats 4000000 in
set_option maxRecDepth 100000 in
theorem b_Model_isReady_4 {p : Program} {l : Launch} {e : Env} {s : State} {m : MethodId} {args : Array Value} {below : List Frame} {meth : Method} {c : Code} {g : Sg} {R : Nat → Nat → Nat} {I : St} {v : Int32} (cx : Cx p s m args meth c g R R_Model b_Model_isReady 4 (some .boolean)) (f : Nat) : ∀ (a0 : Nat) (x1 : Int32) (x2 : Int32) (x3 : Int32) (H : Heap) (locs : List Loc) (ls : Array Slot), okA g 5 0 a0 → B_Model_isReady_4 R I f a0 x1 x2 x3 = some v → wW g R I H → va_S (· ∈ g.L) s.heap H locs → lv_has ls 4 [(0, .ref a0), (1, .int x1), (2, .int x2), (3, .int x3)] → W p l e { frames := 2, cells := 0, slots := 0, locals := 42 } s m args below meth c H locs 0 0 (MQ below (Qi g R v I) args s 0 0 (· ∈ g.L)) (F0 m 4 ls []) := by
  have ⟨hx, hb, hml, hr, hlk, hown, hall, hT, hK⟩ := cx
  induction f with
  | zero => intro a0 x1 x2 x3 H locs ls o0 h; unfold B_Model_isReady_4 at h; cases h
  | succ f ih =>
    intro a0 x1 x2 x3 H locs ls o0 h hP hS hl
    unfold B_Model_isReady_4 at h
    refine lv_iload_n hx hb d_Model_isReady_4 rfl (lv_at hl 3 rfl) ?_
    refine lv_aload_n hx hb d_Model_isReady_5 rfl (lv_at hl 0 rfl) ?_
    refine gg_get (C := R_Model) (T := F_Model) (N := 23) (ci := 5) hx hb hall i_Model hown hK hP o0.1 (wE_5 o0.2) rfl 10 (by decide) (hall _ m_349) (fun _ h9 => h9) rfl d_Model_isReady_6 ?_
    have o_6 : okA g 6 6 (R a0 10) := ty_Model_10 hT o0
    refine lv_iload_n hx hb d_Model_isReady_9 rfl (lv_at hl 1 rfl) ?_
    obtain ⟨hi10, h⟩ := chk_el h
    refine gg_iald hx hb hK hP o_6 hi10 d_Model_isReady_10 ?_
    refine lv_icmp_ge hx hb d_Model_isReady_11 rfl (fun hc => ?_) (fun hc => ?_)
    · replace h := i_pos hc h
      refine lv_iload_n hx hb d_Model_isReady_50 rfl (lv_at hl 2 rfl) ?_
      refine lv_if_eq hx hb d_Model_isReady_51 rfl (fun hc => ?_) (fun hc => ?_)
      · replace h := i_pos hc h
        exact b_Model_isReady_66 cx _ _ _ h hP hS (lv_sub hl [] rfl)
      · replace h := i_neg hc h
        refine lv_aload_n hx hb d_Model_isReady_54 rfl (lv_at hl 0 rfl) ?_
        refine lv_iload_n hx hb d_Model_isReady_55 rfl (lv_at hl 1 rfl) ?_
        obtain ⟨v56, e56, h⟩ := ob_el h
        refine gg_Vi (As := [.int x1]) (rest := []) (ci := 5) (C := R_Model) (T := F_Model) (N := 23) ⟨hx, hb, hml, hown, hall⟩ (c_Model_isActive l hT o0 e56) (cwV 1 hall (gV m_350 m_351 m_352 m_338 m_348) rfl rfl rfl (by decide +kernel) ⟨Nat.le_of_ble_eq_true rfl, Nat.le_of_ble_eq_true rfl⟩) hK hP hS o0.1 (wE_5 o0.2) rfl rfl hl.1 rfl (Nat.le_of_ble_eq_true rfl) d_Model_isReady_56 (fun H locs hP hS => ?_)
        refine lv_if_eq hx hb d_Model_isReady_59 rfl (fun hc => ?_) (fun hc => ?_)
        · replace h := i_pos hc h
          exact b_Model_isReady_66 cx _ _ _ h hP hS (lv_sub hl [] rfl)
        · replace h := i_neg hc h
          refine lv_iconst (v := 1) hx hb d_Model_isReady_62 (by decide) ?_
          refine lv_goto hx hb d_Model_isReady_63 rfl ?_
          obtain rfl := Option.some.inj h
          exact gg_zret hx hb hr hlk rfl hK hP hS d_Model_isReady_67
    · replace h := i_neg hc h
      refine lv_iload_n hx hb d_Model_isReady_14 rfl (lv_at hl 2 rfl) ?_
      refine lv_if_ne hx hb d_Model_isReady_15 rfl (fun hc => ?_) (fun hc => ?_)
      · replace h := i_neg hc h
        exact b_Model_isReady_38 cx ih _ _ _ _ _ _ o0 h hP hS (lv_sub hl [0, 1, 3] rfl)
      · replace h := i_pos hc h
        refine lv_aload_n hx hb d_Model_isReady_18 rfl (lv_at hl 0 rfl) ?_
        refine gg_get (C := R_Model) (T := F_Model) (N := 23) (ci := 5) hx hb hall i_Model hown hK hP o0.1 (wE_5 o0.2) rfl 11 (by decide) (hall _ m_353) (fun _ h9 => h9) rfl d_Model_isReady_19 ?_
        have o_19 : okA g 6 360 (R a0 11) := ty_Model_11 hT o0
        refine lv_bipush (v := 60) hx hb d_Model_isReady_22 (by decide) ?_
        refine lv_iload_n hx hb d_Model_isReady_24 rfl (lv_at hl 1 rfl) ?_
        refine lv_imul hx hb d_Model_isReady_25 ?_
        refine lv_iload_n hx hb d_Model_isReady_26 rfl (lv_at hl 3 rfl) ?_
        refine lv_iadd hx hb d_Model_isReady_27 ?_
        obtain ⟨hi28, h⟩ := chk_el h
        refine gg_iald hx hb hK hP o_19 hi28 d_Model_isReady_28 ?_
        refine lv_aload_n hx hb d_Model_isReady_29 rfl (lv_at hl 0 rfl) ?_
        refine gg_get (C := R_Model) (T := F_Model) (N := 23) (ci := 5) hx hb hall i_Model hown hK hP o0.1 (wE_5 o0.2) rfl 4 (by decide) (hall _ m_354) (fun _ h9 => h9) rfl d_Model_isReady_30 ?_
        have o_30 : okA g 6 6 (R a0 4) := ty_Model_4 hT o0
        refine lv_iload_n hx hb d_Model_isReady_33 rfl (lv_at hl 1 rfl) ?_
        obtain ⟨hi34, h⟩ := chk_el h
        refine gg_iald hx hb hK hP o_30 hi34 d_Model_isReady_34 ?_
        refine lv_icmp_ne hx hb d_Model_isReady_35 rfl (fun hc => ?_) (fun hc => ?_)
        · replace h := i_neg hc h
          refine lv_iconst (v := 0) hx hb d_Model_isReady_42 (by decide) ?_
          exact b_Model_isReady_43 cx ih _ _ _ _ _ _ _ o0 h hP hS (lv_sub hl [0, 1, 3] rfl)
        · replace h := i_pos hc h
          exact b_Model_isReady_38 cx ih _ _ _ _ _ _ o0 h hP hS (lv_sub hl [0, 1, 3] rfl)
def F_Model_isReady (R : Nat → Nat → Nat) (a0 : Nat) (x1 : Int32) (I : St) : Option Int32 := B_Model_isReady_4 R I 100 a0 x1 (0 : Int32) (0 : Int32)
set_option maxHeartbeats 4000000 in
set_option maxRecDepth 100000 in
theorem c_Model_isReady (l : Launch) {g : Sg} {R : Nat → Nat → Nat} (hT : Ty g R) {a0 : Nat} (o0 : okA g 5 0 a0) {x1 : Int32} {I : St} {v : Int32} (h : F_Model_isReady R a0 x1 I = some v) : Cti l g R y_Model_isReady w_Model_isReady 2 42 [.ref a0, .int x1] I v I := by
  unfold Cti
  refine Met.ofW (cc := b_Model_isReady) (maxL := 4) (ret := (some .boolean)) (by decide) rfl ?_
  intro p e s m args below meth c s₁ B hml hv
  obtain ⟨rfl, hP, hK⟩ := hv
  have hts := atoms_spec (ws := w_Model_isReady) B.pre
  have hall : ∀ w ∈ w_all, w.before _ s = true := fun w hw => hts w (List.mem_cons_of_mem _ hw)
  have hown : s.vm.findClass R_Model = some m.cls := findClass_of_methodNamed B.named
  have hx := B.exec
  have hb := B.bytes
  have hr := B.returns
  have hlk := B.notSynchronized
  have cx : Cx p s m _ meth c g R R_Model b_Model_isReady 4 (some .boolean) := ⟨hx, hb, hml, hr, hlk, hown, hall, hT, hK⟩
  have hl := lv_entry ([.ref a0, .int x1]) (n := 4) (Nat.le_of_ble_eq_true rfl)
  rw [lg_entry_eq]
  generalize (lg_sl ([.ref a0, .int x1]) ++ List.replicate (4 - (lg_sl ([.ref a0, .int x1])).length) Slot.unset).toArray = ls at hl ⊢
  have hl : lv_has ls 4 [(0, .ref a0), (1, .int x1)] := hl
  have hS : va_S (· ∈ g.L) s.heap s.heap [] := va_S.rf
  unfold F_Model_isReady at h
  refine lv_iconst (v := 0) hx hb d_Model_isReady_0 (by decide) ?_
  refine lv_istore_n (lv' := [(2, .int (0 : Int32)), (0, .ref a0), (1, .int x1)]) hx hb d_Model_isReady_1 rfl hl (Nat.le_of_ble_eq_true rfl) rfl (fun ls hl => ?_)
  refine lv_iconst (v := 0) hx hb d_Model_isReady_2 (by decide) ?_
  refine lv_istore_n (lv' := [(3, .int (0 : Int32)), (2, .int (0 : Int32)), (0, .ref a0), (1, .int x1)]) hx hb d_Model_isReady_3 rfl hl (Nat.le_of_ble_eq_true rfl) rfl (fun ls hl => ?_)
  exact b_Model_isReady_4 cx 100 _ _ _ _ _ _ _ o0 h hP hS (lv_sub hl [2, 3, 1, 0] rfl)
end
