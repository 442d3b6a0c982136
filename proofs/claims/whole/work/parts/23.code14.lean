section
abbrev b_Model_ready : ByteArray := prog_7_method_11_code
def y_Model_ready : MethodName := ⟨"StampedStoreModel", "ready", "(I)I"⟩
def w_Model_ready : List Cond := .code y_Model_ready b_Model_ready 3 (some .int) :: w_all
theorem d_Model_ready_0 : decode b_Model_ready 0 = .ok (.iconst 3, 1) := by decide +kernel
theorem d_Model_ready_1 : decode b_Model_ready 1 = .ok (.iload_n 1, 1) := by decide +kernel
theorem d_Model_ready_2 : decode b_Model_ready 2 = .ok (.imul, 1) := by decide +kernel
theorem d_Model_ready_3 : decode b_Model_ready 3 = .ok (.istore_n 2, 1) := by decide +kernel
theorem d_Model_ready_4 : decode b_Model_ready 4 = .ok (.iload_n 2, 1) := by decide +kernel
theorem d_Model_ready_5 : decode b_Model_ready 5 = .ok (.iconst 3, 1) := by decide +kernel
theorem d_Model_ready_6 : decode b_Model_ready 6 = .ok (.iload_n 1, 1) := by decide +kernel
theorem d_Model_ready_7 : decode b_Model_ready 7 = .ok (.imul, 1) := by decide +kernel
theorem d_Model_ready_8 : decode b_Model_ready 8 = .ok (.iconst 3, 1) := by decide +kernel
theorem d_Model_ready_9 : decode b_Model_ready 9 = .ok (.iadd, 1) := by decide +kernel
theorem d_Model_ready_10 : decode b_Model_ready 10 = .ok (.if_icmp .ge 19, 3) := by decide +kernel
theorem d_Model_ready_13 : decode b_Model_ready 13 = .ok (.aload_n 0, 1) := by decide +kernel
theorem d_Model_ready_14 : decode b_Model_ready 14 = .ok (.iload_n 2, 1) := by decide +kernel
theorem d_Model_ready_15 : decode b_Model_ready 15 = .ok (.invokevirtual 90, 3) := by decide +kernel
theorem d_Model_ready_18 : decode b_Model_ready 18 = .ok (.ifCond .eq 5, 3) := by decide +kernel
theorem d_Model_ready_21 : decode b_Model_ready 21 = .ok (.iload_n 2, 1) := by decide +kernel
theorem d_Model_ready_22 : decode b_Model_ready 22 = .ok (.ireturn, 1) := by decide +kernel
theorem d_Model_ready_23 : decode b_Model_ready 23 = .ok (.iinc 2 1, 3) := by decide +kernel
theorem d_Model_ready_26 : decode b_Model_ready 26 = .ok (.goto (-22), 3) := by decide +kernel
theorem d_Model_ready_29 : decode b_Model_ready 29 = .ok (.iconst (-1), 1) := by decide +kernel
theorem d_Model_ready_30 : decode b_Model_ready 30 = .ok (.ireturn, 1) := by decide +kernel
def B_Model_ready_4 (R : Nat → Nat → Nat) (I : St) : Nat → Nat → Int32 → Int32 → Option Int32
  | 0, _, _, _ => none
  | f + 1, a0, x1, x2 => (if (((3 : Int32) * x1) + (3 : Int32)) ≤ x2 then some (-1 : Int32) else (ob (F_Model_isReady R a0 x2 I) (fun v15 => (if v15 = 0 then B_Model_ready_4 R I f a0 x1 (x2 + 1) else some x2))))
set_option maxHeartbeats 4000000 in
set_option maxRecDepth 100000 in
theorem b_Model_ready_4 {p : Program} {l : Launch} {e : Env} {s : State} {m : MethodId} {args : Array Value} {below : List Frame} {meth : Method} {c : Code} {g : Sg} {R : Nat → Nat → Nat} {I : St} {v : Int32} (cx : Cx p s m args meth c g R R_Model b_Model_ready 3 (some .int)) (f : Nat) : ∀ (a0 : Nat) (x1 : Int32) (x2 : Int32) (H : Heap) (locs : List Loc) (ls : Array Slot), okA g 5 0 a0 → B_Model_ready_4 R I f a0 x1 x2 = some v → wW g R I H → va_S (· ∈ g.L) s.heap H locs → lv_has ls 3 [(0, .ref a0), (1, .int x1), (2, .int x2)] → W p l e { frames := 3, cells := 0, slots := 0, locals := 65 } s m args below meth c H locs 0 0 (MQ below (Qi g R v I) args s 0 0 (· ∈ g.L)) (F0 m 4 ls []) := by
  have ⟨hx, hb, hml, hr, hlk, hown, hall, hT, hK⟩ := cx
  induction f with
  | zero => intro a0 x1 x2 H locs ls o0 h; unfold B_Model_ready_4 at h; cases h
  | succ f ih =>
    intro a0 x1 x2 H locs ls o0 h hP hS hl
    unfold B_Model_ready_4 at h
    refine lv_iload_n hx hb d_Model_ready_4 rfl (lv_at hl 2 rfl) ?_
    refine lv_iconst (v := 3) hx hb d_Model_ready_5 (by decide) ?_
    refine lv_iload_n hx hb d_Model_ready_6 rfl (lv_at hl 1 rfl) ?_
    refine lv_imul hx hb d_Model_ready_7 ?_
    refine lv_iconst (v := 3) hx hb d_Model_ready_8 (by decide) ?_
    refine lv_iadd hx hb d_Model_ready_9 ?_
    refine lv_icmp_ge hx hb d_Model_ready_10 rfl (fun hc => ?_) (fun hc => ?_)
    · replace h := i_pos hc h
      refine lv_iconst (v := (-1)) hx hb d_Model_ready_29 (by decide) ?_
      obtain rfl := Option.some.inj h
      exact gg_iret hx hb hr hlk hK hP hS d_Model_ready_30
    · replace h := i_neg hc h
      refine lv_aload_n hx hb d_Model_ready_13 rfl (lv_at hl 0 rfl) ?_
      refine lv_iload_n hx hb d_Model_ready_14 rfl (lv_at hl 2 rfl) ?_
      obtain ⟨v15, e15, h⟩ := ob_el h
      refine gg_Vi (As := [.int x2]) (rest := []) (ci := 5) (C := R_Model) (T := F_Model) (N := 23) ⟨hx, hb, hml, hown, hall⟩ (c_Model_isReady l hT o0 e15) (cwV 1 hall (gV m_356 m_357 m_358 m_338 m_355) rfl rfl rfl (by decide +kernel) ⟨Nat.le_of_ble_eq_true rfl, Nat.le_of_ble_eq_true rfl⟩) hK hP hS o0.1 (wE_5 o0.2) rfl rfl hl.1 rfl (Nat.le_of_ble_eq_true rfl) d_Model_ready_15 (fun H locs hP hS => ?_)
      refine lv_if_eq hx hb d_Model_ready_18 rfl (fun hc => ?_) (fun hc => ?_)
      · replace h := i_pos hc h
        refine lv_iinc (k := 2) (v := (x2 + 1)) (lv' := [(2, .int (x2 + 1)), (0, .ref a0), (1, .int x1)]) hx hb d_Model_ready_23 hl rfl (by rw [show Int32.ofInt 1 = (1 : Int32) from by decide]) (Nat.le_of_ble_eq_true rfl) rfl (fun ls hl => ?_)
        refine lv_goto hx hb d_Model_ready_26 rfl ?_
        exact ih _ _ _ _ _ _ o0 h hP hS (lv_sub hl [1, 2, 0] rfl)
      · replace h := i_neg hc h
        refine lv_iload_n hx hb d_Model_ready_21 rfl (lv_at hl 2 rfl) ?_
        obtain rfl := Option.some.inj h
        exact gg_iret hx hb hr hlk hK hP hS d_Model_ready_22
def F_Model_ready (R : Nat → Nat → Nat) (a0 : Nat) (x1 : Int32) (I : St) : Option Int32 := B_Model_ready_4 R I 100 a0 x1 ((3 : Int32) * x1)
set_option maxHeartbeats 4000000 in
set_option maxRecDepth 100000 in
theorem c_Model_ready (l : Launch) {g : Sg} {R : Nat → Nat → Nat} (hT : Ty g R) {a0 : Nat} (o0 : okA g 5 0 a0) {x1 : Int32} {I : St} {v : Int32} (h : F_Model_ready R a0 x1 I = some v) : Cti l g R y_Model_ready w_Model_ready 3 65 [.ref a0, .int x1] I v I := by
  unfold Cti
  refine Met.ofW (cc := b_Model_ready) (maxL := 3) (ret := (some .int)) (by decide) rfl ?_
  intro p e s m args below meth c s₁ B hml hv
  obtain ⟨rfl, hP, hK⟩ := hv
  have hts := atoms_spec (ws := w_Model_ready) B.pre
  have hall : ∀ w ∈ w_all, w.before _ s = true := fun w hw => hts w (List.mem_cons_of_mem _ hw)
  have hown : s.vm.findClass R_Model = some m.cls := findClass_of_methodNamed B.named
  have hx := B.exec
  have hb := B.bytes
  have hr := B.returns
  have hlk := B.notSynchronized
  have cx : Cx p s m _ meth c g R R_Model b_Model_ready 3 (some .int) := ⟨hx, hb, hml, hr, hlk, hown, hall, hT, hK⟩
  have hl := lv_entry ([.ref a0, .int x1]) (n := 3) (Nat.le_of_ble_eq_true rfl)
  rw [lg_entry_eq]
  generalize (lg_sl ([.ref a0, .int x1]) ++ List.replicate (3 - (lg_sl ([.ref a0, .int x1])).length) Slot.unset).toArray = ls at hl ⊢
  have hl : lv_has ls 3 [(0, .ref a0), (1, .int x1)] := hl
  have hS : va_S (· ∈ g.L) s.heap s.heap [] := va_S.rf
  unfold F_Model_ready at h
  refine lv_iconst (v := 3) hx hb d_Model_ready_0 (by decide) ?_
  refine lv_iload_n hx hb d_Model_ready_1 rfl (lv_at hl 1 rfl) ?_
  refine lv_imul hx hb d_Model_ready_2 ?_
  refine lv_istore_n (lv' := [(2, .int ((3 : Int32) * x1)), (0, .ref a0), (1, .int x1)]) hx hb d_Model_ready_3 rfl hl (Nat.le_of_ble_eq_true rfl) rfl (fun ls hl => ?_)
  exact b_Model_ready_4 cx 100 _ _ _ _ _ _ o0 h hP hS (lv_sub hl [1, 2, 0] rfl)
abbrev b_Model_leader : ByteArray := prog_7_method_12_code
def y_Model_leader : MethodName := ⟨"StampedStoreModel", "leader", "(I)I"⟩
def w_Model_leader : List Cond := .code y_Model_leader b_Model_leader 2 (some .int) :: w_all
theorem d_Model_leader_0 : decode b_Model_leader 0 = .ok (.iload_n 1, 1) := by decide +kernel
theorem d_Model_leader_1 : decode b_Model_leader 1 = .ok (.iconst 2, 1) := by decide +kernel
theorem d_Model_leader_2 : decode b_Model_leader 2 = .ok (.invokestatic 78, 3) := by decide +kernel
theorem d_Model_leader_5 : decode b_Model_leader 5 = .ok (.ifCond .eq 11, 3) := by decide +kernel
theorem d_Model_leader_8 : decode b_Model_leader 8 = .ok (.aload_n 0, 1) := by decide +kernel
theorem d_Model_leader_9 : decode b_Model_leader 9 = .ok (.iload_n 1, 1) := by decide +kernel
theorem d_Model_leader_10 : decode b_Model_leader 10 = .ok (.invokevirtual 93, 3) := by decide +kernel
theorem d_Model_leader_13 : decode b_Model_leader 13 = .ok (.goto 4, 3) := by decide +kernel
theorem d_Model_leader_16 : decode b_Model_leader 16 = .ok (.iconst (-1), 1) := by decide +kernel
theorem d_Model_leader_17 : decode b_Model_leader 17 = .ok (.ireturn, 1) := by decide +kernel
def F_Model_leader (R : Nat → Nat → Nat) (a0 : Nat) (x1 : Int32) (I : St) : Option Int32 := (ob (F_Model_below R x1 (2 : Int32) I) (fun v2 => (if v2 = 0 then some (-1 : Int32) else (ob (F_Model_ready R a0 x1 I) (fun v10 => some v10)))))
set_option maxHeartbeats 4000000 in
set_option maxRecDepth 100000 in
theorem c_Model_leader (l : Launch) {g : Sg} {R : Nat → Nat → Nat} (hT : Ty g R) {a0 : Nat} (o0 : okA g 5 0 a0) {x1 : Int32} {I : St} {v : Int32} (h : F_Model_leader R a0 x1 I = some v) : Cti l g R y_Model_leader w_Model_leader 4 87 [.ref a0, .int x1] I v I := by
  unfold Cti
  refine Met.ofW (cc := b_Model_leader) (maxL := 2) (ret := (some .int)) (by decide) rfl ?_
  intro p e s m args below meth c s₁ B hml hv
  obtain ⟨rfl, hP, hK⟩ := hv
  have hts := atoms_spec (ws := w_Model_leader) B.pre
  have hall : ∀ w ∈ w_all, w.before _ s = true := fun w hw => hts w (List.mem_cons_of_mem _ hw)
  have hown : s.vm.findClass R_Model = some m.cls := findClass_of_methodNamed B.named
  have hx := B.exec
  have hb := B.bytes
  have hr := B.returns
  have hlk := B.notSynchronized
  have cx : Cx p s m _ meth c g R R_Model b_Model_leader 2 (some .int) := ⟨hx, hb, hml, hr, hlk, hown, hall, hT, hK⟩
  have hl := lv_entry ([.ref a0, .int x1]) (n := 2) (Nat.le_of_ble_eq_true rfl)
  rw [lg_entry_eq]
  generalize (lg_sl ([.ref a0, .int x1]) ++ List.replicate (2 - (lg_sl ([.ref a0, .int x1])).length) Slot.unset).toArray = ls at hl ⊢
  have hl : lv_has ls 2 [(0, .ref a0), (1, .int x1)] := hl
  have hS : va_S (· ∈ g.L) s.heap s.heap [] := va_S.rf
  unfold F_Model_leader at h
  refine lv_iload_n hx hb d_Model_leader_0 rfl (lv_at hl 1 rfl) ?_
  refine lv_iconst (v := 2) hx hb d_Model_leader_1 (by decide) ?_
  obtain ⟨v2, e2, h⟩ := ob_el h
  refine gg_Si (As := [.int x1, .int (2 : Int32)]) (rest := []) ⟨hx, hb, hml, hown, hall⟩ (c_Model_below l hT e2) (cwS 2 hall (gS m_336 m_337 m_338 m_329) rfl rfl rfl (by decide +kernel) ⟨Nat.le_of_ble_eq_true rfl, Nat.le_of_ble_eq_true rfl⟩) hK hP hS rfl hl.1 rfl (Nat.le_of_ble_eq_true rfl) d_Model_leader_2 (fun H locs hP hS => ?_)
  refine lv_if_eq hx hb d_Model_leader_5 rfl (fun hc => ?_) (fun hc => ?_)
  · replace h := i_pos hc h
    refine lv_iconst (v := (-1)) hx hb d_Model_leader_16 (by decide) ?_
    obtain rfl := Option.some.inj h
    exact gg_iret hx hb hr hlk hK hP hS d_Model_leader_17
  · replace h := i_neg hc h
    refine lv_aload_n hx hb d_Model_leader_8 rfl (lv_at hl 0 rfl) ?_
    refine lv_iload_n hx hb d_Model_leader_9 rfl (lv_at hl 1 rfl) ?_
    obtain ⟨v10, e10, h⟩ := ob_el h
    refine gg_Vi (As := [.int x1]) (rest := []) (ci := 5) (C := R_Model) (T := F_Model) (N := 23) ⟨hx, hb, hml, hown, hall⟩ (c_Model_ready l hT o0 e10) (cwV 1 hall (gV m_360 m_361 m_362 m_338 m_359) rfl rfl rfl (by decide +kernel) ⟨Nat.le_of_ble_eq_true rfl, Nat.le_of_ble_eq_true rfl⟩) hK hP hS o0.1 (wE_5 o0.2) rfl rfl hl.1 rfl (Nat.le_of_ble_eq_true rfl) d_Model_leader_10 (fun H locs hP hS => ?_)
    refine lv_goto hx hb d_Model_leader_13 rfl ?_
    obtain rfl := Option.some.inj h
    exact gg_iret hx hb hr hlk hK hP hS d_Model_leader_17
abbrev b_Model_next : ByteArray := prog_7_method_13_code
def y_Model_next : MethodName := ⟨"StampedStoreModel", "next", "(I)I"⟩
def w_Model_next : List Cond := .code y_Model_next b_Model_next 4 (some .int) :: w_all
theorem d_Model_next_0 : decode b_Model_next 0 = .ok (.aload_n 0, 1) := by decide +kernel
theorem d_Model_next_1 : decode b_Model_next 1 = .ok (.iload_n 1, 1) := by decide +kernel
theorem d_Model_next_2 : decode b_Model_next 2 = .ok (.invokevirtual 82, 3) := by decide +kernel
theorem d_Model_next_5 : decode b_Model_next 5 = .ok (.istore_n 2, 1) := by decide +kernel
theorem d_Model_next_6 : decode b_Model_next 6 = .ok (.bipush 60, 2) := by decide +kernel
theorem d_Model_next_8 : decode b_Model_next 8 = .ok (.iload_n 1, 1) := by decide +kernel
theorem d_Model_next_9 : decode b_Model_next 9 = .ok (.imul, 1) := by decide +kernel
theorem d_Model_next_10 : decode b_Model_next 10 = .ok (.istore_n 3, 1) := by decide +kernel
theorem d_Model_next_11 : decode b_Model_next 11 = .ok (.iload_n 3, 1) := by decide +kernel
theorem d_Model_next_12 : decode b_Model_next 12 = .ok (.bipush 60, 2) := by decide +kernel
theorem d_Model_next_14 : decode b_Model_next 14 = .ok (.iload_n 1, 1) := by decide +kernel
theorem d_Model_next_15 : decode b_Model_next 15 = .ok (.imul, 1) := by decide +kernel
theorem d_Model_next_16 : decode b_Model_next 16 = .ok (.aload_n 0, 1) := by decide +kernel
theorem d_Model_next_17 : decode b_Model_next 17 = .ok (.getfield 32, 3) := by decide +kernel
theorem d_Model_next_20 : decode b_Model_next 20 = .ok (.iload_n 1, 1) := by decide +kernel
theorem d_Model_next_21 : decode b_Model_next 21 = .ok (.iaload, 1) := by decide +kernel
theorem d_Model_next_22 : decode b_Model_next 22 = .ok (.iadd, 1) := by decide +kernel
theorem d_Model_next_23 : decode b_Model_next 23 = .ok (.if_icmp .ge 65, 3) := by decide +kernel
theorem d_Model_next_26 : decode b_Model_next 26 = .ok (.aload_n 0, 1) := by decide +kernel
theorem d_Model_next_27 : decode b_Model_next 27 = .ok (.getfield 41, 3) := by decide +kernel
theorem d_Model_next_30 : decode b_Model_next 30 = .ok (.iload_n 3, 1) := by decide +kernel
theorem d_Model_next_31 : decode b_Model_next 31 = .ok (.iaload, 1) := by decide +kernel
theorem d_Model_next_32 : decode b_Model_next 32 = .ok (.iload_n 2, 1) := by decide +kernel
theorem d_Model_next_33 : decode b_Model_next 33 = .ok (.if_icmp .lt 14, 3) := by decide +kernel
theorem d_Model_next_36 : decode b_Model_next 36 = .ok (.aload_n 0, 1) := by decide +kernel
theorem d_Model_next_37 : decode b_Model_next 37 = .ok (.getfield 41, 3) := by decide +kernel
theorem d_Model_next_40 : decode b_Model_next 40 = .ok (.iload_n 3, 1) := by decide +kernel
theorem d_Model_next_41 : decode b_Model_next 41 = .ok (.iaload, 1) := by decide +kernel
theorem d_Model_next_42 : decode b_Model_next 42 = .ok (.iconst 1, 1) := by decide +kernel
theorem d_Model_next_43 : decode b_Model_next 43 = .ok (.iadd, 1) := by decide +kernel
theorem d_Model_next_44 : decode b_Model_next 44 = .ok (.goto 4, 3) := by decide +kernel
theorem d_Model_next_47 : decode b_Model_next 47 = .ok (.iload_n 2, 1) := by decide +kernel
theorem d_Model_next_48 : decode b_Model_next 48 = .ok (.istore_n 2, 1) := by decide +kernel
theorem d_Model_next_49 : decode b_Model_next 49 = .ok (.aload_n 0, 1) := by decide +kernel
theorem d_Model_next_50 : decode b_Model_next 50 = .ok (.getfield 44, 3) := by decide +kernel
theorem d_Model_next_53 : decode b_Model_next 53 = .ok (.iload_n 3, 1) := by decide +kernel
theorem d_Model_next_54 : decode b_Model_next 54 = .ok (.iaload, 1) := by decide +kernel
theorem d_Model_next_55 : decode b_Model_next 55 = .ok (.iconst 3, 1) := by decide +kernel
theorem d_Model_next_56 : decode b_Model_next 56 = .ok (.if_icmp .ne 24, 3) := by decide +kernel
theorem d_Model_next_59 : decode b_Model_next 59 = .ok (.aload_n 0, 1) := by decide +kernel
theorem d_Model_next_60 : decode b_Model_next 60 = .ok (.getfield 50, 3) := by decide +kernel
theorem d_Model_next_63 : decode b_Model_next 63 = .ok (.iload_n 3, 1) := by decide +kernel
theorem d_Model_next_64 : decode b_Model_next 64 = .ok (.iaload, 1) := by decide +kernel
theorem d_Model_next_65 : decode b_Model_next 65 = .ok (.iload_n 2, 1) := by decide +kernel
theorem d_Model_next_66 : decode b_Model_next 66 = .ok (.if_icmp .lt 14, 3) := by decide +kernel
theorem d_Model_next_69 : decode b_Model_next 69 = .ok (.aload_n 0, 1) := by decide +kernel
theorem d_Model_next_70 : decode b_Model_next 70 = .ok (.getfield 50, 3) := by decide +kernel
theorem d_Model_next_73 : decode b_Model_next 73 = .ok (.iload_n 3, 1) := by decide +kernel
theorem d_Model_next_74 : decode b_Model_next 74 = .ok (.iaload, 1) := by decide +kernel
theorem d_Model_next_75 : decode b_Model_next 75 = .ok (.iconst 1, 1) := by decide +kernel
theorem d_Model_next_76 : decode b_Model_next 76 = .ok (.iadd, 1) := by decide +kernel
theorem d_Model_next_77 : decode b_Model_next 77 = .ok (.goto 4, 3) := by decide +kernel
theorem d_Model_next_80 : decode b_Model_next 80 = .ok (.iload_n 2, 1) := by decide +kernel
theorem d_Model_next_81 : decode b_Model_next 81 = .ok (.istore_n 2, 1) := by decide +kernel
theorem d_Model_next_82 : decode b_Model_next 82 = .ok (.iinc 3 1, 3) := by decide +kernel
theorem d_Model_next_85 : decode b_Model_next 85 = .ok (.goto (-74), 3) := by decide +kernel
theorem d_Model_next_88 : decode b_Model_next 88 = .ok (.iload_n 2, 1) := by decide +kernel
theorem d_Model_next_89 : decode b_Model_next 89 = .ok (.ireturn, 1) := by decide +kernel
def B_Model_next_81 (R : Nat → Nat → Nat) (I : St) (k11 : Nat → Int32 → Int32 → Int32 → Option Int32) (a0 : Nat) (x1 : Int32) (x3 : Int32) (t0 : Int32) : Option Int32 := k11 a0 x1 t0 (x3 + 1)
set_option maxHeartbeats 4000000 in
set_option maxRecDepth 100000 in
theorem b_Model_next_81 {p : Program} {l : Launch} {e : Env} {s : State} {m : MethodId} {args : Array Value} {below : List Frame} {meth : Method} {c : Code} {g : Sg} {R : Nat → Nat → Nat} {I : St} {v : Int32} (cx : Cx p s m args meth c g R R_Model b_Model_next 4 (some .int)) {k11 : Nat → Int32 → Int32 → Int32 → Option Int32} (hk11 : ∀ (a0 : Nat) (x1 : Int32) (x2 : Int32) (x3 : Int32) (H : Heap) (locs : List Loc) (ls : Array Slot), okA g 5 0 a0 → k11 a0 x1 x2 x3 = some v → wW g R I H → va_S (· ∈ g.L) s.heap H locs → lv_has ls 4 [(0, .ref a0), (1, .int x1), (2, .int x2), (3, .int x3)] → W p l e { frames := 1, cells := 0, slots := 0, locals := 21 } s m args below meth c H locs 0 0 (MQ below (Qi g R v I) args s 0 0 (· ∈ g.L)) (F0 m 11 ls [])) : ∀ (a0 : Nat) (x1 : Int32) (x3 : Int32) (t0 : Int32) (H : Heap) (locs : List Loc) (ls : Array Slot), okA g 5 0 a0 → B_Model_next_81 R I k11 a0 x1 x3 t0 = some v → wW g R I H → va_S (· ∈ g.L) s.heap H locs → lv_has ls 4 [(0, .ref a0), (1, .int x1), (3, .int x3)] → W p l e { frames := 1, cells := 0, slots := 0, locals := 21 } s m args below meth c H locs 0 0 (MQ below (Qi g R v I) args s 0 0 (· ∈ g.L)) (F0 m 81 ls [.int t0]) := by
  have ⟨hx, hb, hml, hr, hlk, hown, hall, hT, hK⟩ := cx
  intro a0 x1 x3 t0 H locs ls o0 h hP hS hl
  unfold B_Model_next_81 at h
  refine lv_istore_n (lv' := [(2, .int t0), (0, .ref a0), (1, .int x1), (3, .int x3)]) hx hb d_Model_next_81 rfl hl (Nat.le_of_ble_eq_true rfl) rfl (fun ls hl => ?_)
  refine lv_iinc (k := 3) (v := (x3 + 1)) (lv' := [(3, .int (x3 + 1)), (2, .int t0), (0, .ref a0), (1, .int x1)]) hx hb d_Model_next_82 hl rfl (by rw [show Int32.ofInt 1 = (1 : Int32) from by decide]) (Nat.le_of_ble_eq_true rfl) rfl (fun ls hl => ?_)
  refine lv_goto hx hb d_Model_next_85 rfl ?_
  exact hk11 _ _ _ _ _ _ _ o0 h hP hS (lv_sub hl [2, 3, 1, 0] rfl)
def B_Model_next_80 (R : Nat → Nat → Nat) (I : St) (k11 : Nat → Int32 → Int32 → Int32 → Option Int32) (a0 : Nat) (x1 : Int32) (x2 : Int32) (x3 : Int32) : Option Int32 := B_Model_next_81 R I k11 a0 x1 x3 x2
set_option maxHeartbeats 4000000 in
set_option maxRecDepth 100000 in
theorem b_Model_next_80 {p : Program} {l : Launch} {e : Env} {s : State} {m : MethodId} {args : Array Value} {below : List Frame} {meth : Method} {c : Code} {g : Sg} {R : Nat → Nat → Nat} {I : St} {v : Int32} (cx : Cx p s m args meth c g R R_Model b_Model_next 4 (some .int)) {k11 : Nat → Int32 → Int32 → Int32 → Option Int32} (hk11 : ∀ (a0 : Nat) (x1 : Int32) (x2 : Int32) (x3 : Int32) (H : Heap) (locs : List Loc) (ls : Array Slot), okA g 5 0 a0 → k11 a0 x1 x2 x3 = some v → wW g R I H → va_S (· ∈ g.L) s.heap H locs → lv_has ls 4 [(0, .ref a0), (1, .int x1), (2, .int x2), (3, .int x3)] → W p l e { frames := 1, cells := 0, slots := 0, locals := 21 } s m args below meth c H locs 0 0 (MQ below (Qi g R v I) args s 0 0 (· ∈ g.L)) (F0 m 11 ls [])) : ∀ (a0 : Nat) (x1 : Int32) (x2 : Int32) (x3 : Int32) (H : Heap) (locs : List Loc) (ls : Array Slot), okA g 5 0 a0 → B_Model_next_80 R I k11 a0 x1 x2 x3 = some v → wW g R I H → va_S (· ∈ g.L) s.heap H locs → lv_has ls 4 [(0, .ref a0), (1, .int x1), (2, .int x2), (3, .int x3)] → W p l e { frames := 1, cells := 0, slots := 0, locals := 21 } s m args below meth c H locs 0 0 (MQ below (Qi g R v I) args s 0 0 (· ∈ g.L)) (F0 m 80 ls []) := by
  have ⟨hx, hb, hml, hr, hlk, hown, hall, hT, hK⟩ := cx
  intro a0 x1 x2 x3 H locs ls o0 h hP hS hl
  unfold B_Model_next_80 at h
  refine lv_iload_n hx hb d_Model_next_80 rfl (lv_at hl 2 rfl) ?_
  exact b_Model_next_81 cx hk11 _ _ _ _ _ _ _ o0 h hP hS (lv_sub hl [0, 1, 3] rfl)
def B_Model_next_48 (R : Nat → Nat → Nat) (I : St) (k11 : Nat → Int32 → Int32 → Int32 → Option Int32) (a0 : Nat) (x1 : Int32) (x3 : Int32) (t0 : Int32) : Option Int32 := (chk x3 360 ((if (I (R a0 13) x3.toNatClampNeg) = (3 : Int32) then (chk x3 360 ((if (I (R a0 15) x3.toNatClampNeg) < t0 then B_Model_next_80 R I k11 a0 x1 t0 x3 else (chk x3 360 (B_Model_next_81 R I k11 a0 x1 x3 ((I (R a0 15) x3.toNatClampNeg) + (1 : Int32))))))) else B_Model_next_80 R I k11 a0 x1 t0 x3)))
set_option maxHeartbeats 4000000 in
set_option maxRecDepth 100000 in
theorem b_Model_next_48 {p : Program} {l : Launch} {e : Env} {s : State} {m : MethodId} {args : Array Value} {below : List Frame} {meth : Method} {c : Code} {g : Sg} {R : Nat → Nat → Nat} {I : St} {v : Int32} (cx : Cx p s m args meth c g R R_Model b_Model_next 4 (some .int)) {k11 : Nat → Int32 → Int32 → Int32 → Option Int32} (hk11 : ∀ (a0 : Nat) (x1 : Int32) (x2 : Int32) (x3 : Int32) (H : Heap) (locs : List Loc) (ls : Array Slot), okA g 5 0 a0 → k11 a0 x1 x2 x3 = some v → wW g R I H → va_S (· ∈ g.L) s.heap H locs → lv_has ls 4 [(0, .ref a0), (1, .int x1), (2, .int x2), (3, .int x3)] → W p l e { frames := 1, cells := 0, slots := 0, locals := 21 } s m args below meth c H locs 0 0 (MQ below (Qi g R v I) args s 0 0 (· ∈ g.L)) (F0 m 11 ls [])) : ∀ (a0 : Nat) (x1 : Int32) (x3 : Int32) (t0 : Int32) (H : Heap) (locs : List Loc) (ls : Array Slot), okA g 5 0 a0 → B_Model_next_48 R I k11 a0 x1 x3 t0 = some v → wW g R I H → va_S (· ∈ g.L) s.heap H locs → lv_has ls 4 [(0, .ref a0), (1, .int x1), (3, .int x3)] → W p l e { frames := 1, cells := 0, slots := 0, locals := 21 } s m args below meth c H locs 0 0 (MQ below (Qi g R v I) args s 0 0 (· ∈ g.L)) (F0 m 48 ls [.int t0]) := by
  have ⟨hx, hb, hml, hr, hlk, hown, hall, hT, hK⟩ := cx
  intro a0 x1 x3 t0 H locs ls o0 h hP hS hl
  unfold B_Model_next_48 at h
  refine lv_istore_n (lv' := [(2, .int t0), (0, .ref a0), (1, .int x1), (3, .int x3)]) hx hb d_Model_next_48 rfl hl (Nat.le_of_ble_eq_true rfl) rfl (fun ls hl => ?_)
  refine lv_aload_n hx hb d_Model_next_49 rfl (lv_at hl 1 rfl) ?_
  refine gg_get (C := R_Model) (T := F_Model) (N := 23) (ci := 5) hx hb hall i_Model hown hK hP o0.1 (wE_5 o0.2) rfl 13 (by decide) (hall _ m_364) (fun _ h9 => h9) rfl d_Model_next_50 ?_
  have o_50 : okA g 6 360 (R a0 13) := ty_Model_13 hT o0
  refine lv_iload_n hx hb d_Model_next_53 rfl (lv_at hl 3 rfl) ?_
  obtain ⟨hi54, h⟩ := chk_el h
  refine gg_iald hx hb hK hP o_50 hi54 d_Model_next_54 ?_
  refine lv_iconst (v := 3) hx hb d_Model_next_55 (by decide) ?_
  refine lv_icmp_ne hx hb d_Model_next_56 rfl (fun hc => ?_) (fun hc => ?_)
  · replace h := i_neg hc h
    exact b_Model_next_80 cx hk11 _ _ _ _ _ _ _ o0 h hP hS (lv_sub hl [1, 2, 0, 3] rfl)
  · replace h := i_pos hc h
    refine lv_aload_n hx hb d_Model_next_59 rfl (lv_at hl 1 rfl) ?_
    refine gg_get (C := R_Model) (T := F_Model) (N := 23) (ci := 5) hx hb hall i_Model hown hK hP o0.1 (wE_5 o0.2) rfl 15 (by decide) (hall _ m_365) (fun _ h9 => h9) rfl d_Model_next_60 ?_
    have o_60 : okA g 6 360 (R a0 15) := ty_Model_15 hT o0
    refine lv_iload_n hx hb d_Model_next_63 rfl (lv_at hl 3 rfl) ?_
    obtain ⟨hi64, h⟩ := chk_el h
    refine gg_iald hx hb hK hP o_60 hi64 d_Model_next_64 ?_
    refine lv_iload_n hx hb d_Model_next_65 rfl (lv_at hl 0 rfl) ?_
    refine lv_icmp_lt hx hb d_Model_next_66 rfl (fun hc => ?_) (fun hc => ?_)
    · replace h := i_pos hc h
      exact b_Model_next_80 cx hk11 _ _ _ _ _ _ _ o0 h hP hS (lv_sub hl [1, 2, 0, 3] rfl)
    · replace h := i_neg hc h
      refine lv_aload_n hx hb d_Model_next_69 rfl (lv_at hl 1 rfl) ?_
      refine gg_get (C := R_Model) (T := F_Model) (N := 23) (ci := 5) hx hb hall i_Model hown hK hP o0.1 (wE_5 o0.2) rfl 15 (by decide) (hall _ m_365) (fun _ h9 => h9) rfl d_Model_next_70 ?_
      have o_70 : okA g 6 360 (R a0 15) := ty_Model_15 hT o0
      refine lv_iload_n hx hb d_Model_next_73 rfl (lv_at hl 3 rfl) ?_
      obtain ⟨hi74, h⟩ := chk_el h
      refine gg_iald hx hb hK hP o_70 hi74 d_Model_next_74 ?_
      refine lv_iconst (v := 1) hx hb d_Model_next_75 (by decide) ?_
      refine lv_iadd hx hb d_Model_next_76 ?_
      refine lv_goto hx hb d_Model_next_77 rfl ?_
      exact b_Model_next_81 cx hk11 _ _ _ _ _ _ _ o0 h hP hS (lv_sub hl [1, 2, 3] rfl)
def B_Model_next_11 (R : Nat → Nat → Nat) (I : St) : Nat → Nat → Int32 → Int32 → Int32 → Option Int32
  | 0, _, _, _, _ => none
  | f + 1, a0, x1, x2, x3 => (chk x1 6 ((if (((60 : Int32) * x1) + (I (R a0 9) x1.toNatClampNeg)) ≤ x3 then some x2 else (chk x3 360 ((if (I (R a0 12) x3.toNatClampNeg) < x2 then B_Model_next_48 R I (B_Model_next_11 R I f) a0 x1 x3 x2 else (chk x3 360 (B_Model_next_48 R I (B_Model_next_11 R I f) a0 x1 x3 ((I (R a0 12) x3.toNatClampNeg) + (1 : Int32))))))))))
set_option maxHeartbeats 4000000 in
set_option maxRecDepth 100000 in
theorem b_Model_next_11 {p : Program} {l : Launch} {e : Env} {s : State} {m : MethodId} {args : Array Value} {below : List Frame} {meth : Method} {c : Code} {g : Sg} {R : Nat → Nat → Nat} {I : St} {v : Int32} (cx : Cx p s m args meth c g R R_Model b_Model_next 4 (some .int)) (f : Nat) : ∀ (a0 : Nat) (x1 : Int32) (x2 : Int32) (x3 : Int32) (H : Heap) (locs : List Loc) (ls : Array Slot), okA g 5 0 a0 → B_Model_next_11 R I f a0 x1 x2 x3 = some v → wW g R I H → va_S (· ∈ g.L) s.heap H locs → lv_has ls 4 [(0, .ref a0), (1, .int x1), (2, .int x2), (3, .int x3)] → W p l e { frames := 1, cells := 0, slots := 0, locals := 21 } s m args below meth c H locs 0 0 (MQ below (Qi g R v I) args s 0 0 (· ∈ g.L)) (F0 m 11 ls []) := by
  have ⟨hx, hb, hml, hr, hlk, hown, hall, hT, hK⟩ := cx
  induction f with
  | zero => intro a0 x1 x2 x3 H locs ls o0 h; unfold B_Model_next_11 at h; cases h
  | succ f ih =>
    intro a0 x1 x2 x3 H locs ls o0 h hP hS hl
    unfold B_Model_next_11 at h
    refine lv_iload_n hx hb d_Model_next_11 rfl (lv_at hl 3 rfl) ?_
    refine lv_bipush (v := 60) hx hb d_Model_next_12 (by decide) ?_
    refine lv_iload_n hx hb d_Model_next_14 rfl (lv_at hl 1 rfl) ?_
    refine lv_imul hx hb d_Model_next_15 ?_
    refine lv_aload_n hx hb d_Model_next_16 rfl (lv_at hl 0 rfl) ?_
    refine gg_get (C := R_Model) (T := F_Model) (N := 23) (ci := 5) hx hb hall i_Model hown hK hP o0.1 (wE_5 o0.2) rfl 9 (by decide) (hall _ m_366) (fun _ h9 => h9) rfl d_Model_next_17 ?_
    have o_17 : okA g 6 6 (R a0 9) := ty_Model_9 hT o0
    refine lv_iload_n hx hb d_Model_next_20 rfl (lv_at hl 1 rfl) ?_
    obtain ⟨hi21, h⟩ := chk_el h
    refine gg_iald hx hb hK hP o_17 hi21 d_Model_next_21 ?_
    refine lv_iadd hx hb d_Model_next_22 ?_
    refine lv_icmp_ge hx hb d_Model_next_23 rfl (fun hc => ?_) (fun hc => ?_)
    · replace h := i_pos hc h
      refine lv_iload_n hx hb d_Model_next_88 rfl (lv_at hl 2 rfl) ?_
      obtain rfl := Option.some.inj h
      exact gg_iret hx hb hr hlk hK hP hS d_Model_next_89
    · replace h := i_neg hc h
      refine lv_aload_n hx hb d_Model_next_26 rfl (lv_at hl 0 rfl) ?_
      refine gg_get (C := R_Model) (T := F_Model) (N := 23) (ci := 5) hx hb hall i_Model hown hK hP o0.1 (wE_5 o0.2) rfl 12 (by decide) (hall _ m_367) (fun _ h9 => h9) rfl d_Model_next_27 ?_
      have o_27 : okA g 6 360 (R a0 12) := ty_Model_12 hT o0
      refine lv_iload_n hx hb d_Model_next_30 rfl (lv_at hl 3 rfl) ?_
      obtain ⟨hi31, h⟩ := chk_el h
      refine gg_iald hx hb hK hP o_27 hi31 d_Model_next_31 ?_
      refine lv_iload_n hx hb d_Model_next_32 rfl (lv_at hl 2 rfl) ?_
      refine lv_icmp_lt hx hb d_Model_next_33 rfl (fun hc => ?_) (fun hc => ?_)
      · replace h := i_pos hc h
        refine lv_iload_n hx hb d_Model_next_47 rfl (lv_at hl 2 rfl) ?_
        exact b_Model_next_48 cx ih _ _ _ _ _ _ _ o0 h hP hS (lv_sub hl [0, 1, 3] rfl)
      · replace h := i_neg hc h
        refine lv_aload_n hx hb d_Model_next_36 rfl (lv_at hl 0 rfl) ?_
        refine gg_get (C := R_Model) (T := F_Model) (N := 23) (ci := 5) hx hb hall i_Model hown hK hP o0.1 (wE_5 o0.2) rfl 12 (by decide) (hall _ m_367) (fun _ h9 => h9) rfl d_Model_next_37 ?_
        have o_37 : okA g 6 360 (R a0 12) := ty_Model_12 hT o0
        refine lv_iload_n hx hb d_Model_next_40 rfl (lv_at hl 3 rfl) ?_
        obtain ⟨hi41, h⟩ := chk_el h
        refine gg_iald hx hb hK hP o_37 hi41 d_Model_next_41 ?_
        refine lv_iconst (v := 1) hx hb d_Model_next_42 (by decide) ?_
        refine lv_iadd hx hb d_Model_next_43 ?_
        refine lv_goto hx hb d_Model_next_44 rfl ?_
        exact b_Model_next_48 cx ih _ _ _ _ _ _ _ o0 h hP hS (lv_sub hl [0, 1, 3] rfl)
def F_Model_next (R : Nat → Nat → Nat) (a0 : Nat) (x1 : Int32) (I : St) : Option Int32 := (ob (F_Model_latest R a0 x1 I) (fun v2 => B_Model_next_11 R I 100 a0 x1 v2 ((60 : Int32) * x1)))
set_option maxHeartbeats 4000000 in
set_option maxRecDepth 100000 in
theorem c_Model_next (l : Launch) {g : Sg} {R : Nat → Nat → Nat} (hT : Ty g R) {a0 : Nat} (o0 : okA g 5 0 a0) {x1 : Int32} {I : St} {v : Int32} (h : F_Model_next R a0 x1 I = some v) : Cti l g R y_Model_next w_Model_next 1 21 [.ref a0, .int x1] I v I := by
  unfold Cti
  refine Met.ofW (cc := b_Model_next) (maxL := 4) (ret := (some .int)) (by decide) rfl ?_
  intro p e s m args below meth c s₁ B hml hv
  obtain ⟨rfl, hP, hK⟩ := hv
  have hts := atoms_spec (ws := w_Model_next) B.pre
  have hall : ∀ w ∈ w_all, w.before _ s = true := fun w hw => hts w (List.mem_cons_of_mem _ hw)
  have hown : s.vm.findClass R_Model = some m.cls := findClass_of_methodNamed B.named
  have hx := B.exec
  have hb := B.bytes
  have hr := B.returns
  have hlk := B.notSynchronized
  have cx : Cx p s m _ meth c g R R_Model b_Model_next 4 (some .int) := ⟨hx, hb, hml, hr, hlk, hown, hall, hT, hK⟩
  have hl := lv_entry ([.ref a0, .int x1]) (n := 4) (Nat.le_of_ble_eq_true rfl)
  rw [lg_entry_eq]
  generalize (lg_sl ([.ref a0, .int x1]) ++ List.replicate (4 - (lg_sl ([.ref a0, .int x1])).length) Slot.unset).toArray = ls at hl ⊢
  have hl : lv_has ls 4 [(0, .ref a0), (1, .int x1)] := hl
  have hS : va_S (· ∈ g.L) s.heap s.heap [] := va_S.rf
  unfold F_Model_next at h
  refine lv_aload_n hx hb d_Model_next_0 rfl (lv_at hl 0 rfl) ?_
  refine lv_iload_n hx hb d_Model_next_1 rfl (lv_at hl 1 rfl) ?_
  obtain ⟨v2, e2, h⟩ := ob_el h
  refine gg_Vi (As := [.int x1]) (rest := []) (ci := 5) (C := R_Model) (T := F_Model) (N := 23) ⟨hx, hb, hml, hown, hall⟩ (c_Model_latest l hT o0 e2) (cwV 1 hall (gV m_344 m_345 m_346 m_338 m_334) rfl rfl rfl (by decide +kernel) ⟨Nat.le_of_ble_eq_true rfl, Nat.le_of_ble_eq_true rfl⟩) hK hP hS o0.1 (wE_5 o0.2) rfl rfl hl.1 rfl (Nat.le_of_ble_eq_true rfl) d_Model_next_2 (fun H locs hP hS => ?_)
  refine lv_istore_n (lv' := [(2, .int v2), (0, .ref a0), (1, .int x1)]) hx hb d_Model_next_5 rfl hl (Nat.le_of_ble_eq_true rfl) rfl (fun ls hl => ?_)
  refine lv_bipush (v := 60) hx hb d_Model_next_6 (by decide) ?_
  refine lv_iload_n hx hb d_Model_next_8 rfl (lv_at hl 2 rfl) ?_
  refine lv_imul hx hb d_Model_next_9 ?_
  refine lv_istore_n (lv' := [(3, .int ((60 : Int32) * x1)), (2, .int v2), (0, .ref a0), (1, .int x1)]) hx hb d_Model_next_10 rfl hl (Nat.le_of_ble_eq_true rfl) rfl (fun ls hl => ?_)
  exact b_Model_next_11 cx 100 _ _ _ _ _ _ _ o0 h hP hS (lv_sub hl [2, 3, 1, 0] rfl)
abbrev b_Model_bars : ByteArray := prog_7_method_14_code
def y_Model_bars : MethodName := ⟨"StampedStoreModel", "bars", "(II)I"⟩
def w_Model_bars : List Cond := .code y_Model_bars b_Model_bars 3 (some .int) :: w_all
theorem d_Model_bars_0 : decode b_Model_bars 0 = .ok (.aload_n 0, 1) := by decide +kernel
theorem d_Model_bars_1 : decode b_Model_bars 1 = .ok (.getfield 32, 3) := by decide +kernel
theorem d_Model_bars_4 : decode b_Model_bars 4 = .ok (.iload_n 1, 1) := by decide +kernel
theorem d_Model_bars_5 : decode b_Model_bars 5 = .ok (.iaload, 1) := by decide +kernel
theorem d_Model_bars_6 : decode b_Model_bars 6 = .ok (.bipush 60, 2) := by decide +kernel
theorem d_Model_bars_8 : decode b_Model_bars 8 = .ok (.if_icmp .ne 8, 3) := by decide +kernel
theorem d_Model_bars_11 : decode b_Model_bars 11 = .ok (.bipush (-6), 2) := by decide +kernel
theorem d_Model_bars_13 : decode b_Model_bars 13 = .ok (.goto 19, 3) := by decide +kernel
theorem d_Model_bars_16 : decode b_Model_bars 16 = .ok (.iload_n 2, 1) := by decide +kernel
theorem d_Model_bars_17 : decode b_Model_bars 17 = .ok (.aload_n 0, 1) := by decide +kernel
theorem d_Model_bars_18 : decode b_Model_bars 18 = .ok (.getfield 29, 3) := by decide +kernel
theorem d_Model_bars_21 : decode b_Model_bars 21 = .ok (.iload_n 1, 1) := by decide +kernel
theorem d_Model_bars_22 : decode b_Model_bars 22 = .ok (.iaload, 1) := by decide +kernel
theorem d_Model_bars_23 : decode b_Model_bars 23 = .ok (.if_icmp .lt 8, 3) := by decide +kernel
theorem d_Model_bars_26 : decode b_Model_bars 26 = .ok (.bipush (-7), 2) := by decide +kernel
theorem d_Model_bars_28 : decode b_Model_bars 28 = .ok (.goto 4, 3) := by decide +kernel
theorem d_Model_bars_31 : decode b_Model_bars 31 = .ok (.iconst 0, 1) := by decide +kernel
theorem d_Model_bars_32 : decode b_Model_bars 32 = .ok (.ireturn, 1) := by decide +kernel
def F_Model_bars (R : Nat → Nat → Nat) (a0 : Nat) (x1 : Int32) (x2 : Int32) (I : St) : Option Int32 := (chk x1 6 ((if (I (R a0 9) x1.toNatClampNeg) = (60 : Int32) then some (-6 : Int32) else (chk x1 6 ((if x2 < (I (R a0 8) x1.toNatClampNeg) then some (0 : Int32) else some (-7 : Int32)))))))
set_option maxHeartbeats 4000000 in
set_option maxRecDepth 100000 in
theorem c_Model_bars (l : Launch) {g : Sg} {R : Nat → Nat → Nat} (hT : Ty g R) {a0 : Nat} (o0 : okA g 5 0 a0) {x1 : Int32} {x2 : Int32} {I : St} {v : Int32} (h : F_Model_bars R a0 x1 x2 I = some v) : Cti l g R y_Model_bars w_Model_bars 0 0 [.ref a0, .int x1, .int x2] I v I := by
  unfold Cti
  refine Met.ofW (cc := b_Model_bars) (maxL := 3) (ret := (some .int)) (by decide) rfl ?_
  intro p e s m args below meth c s₁ B hml hv
  obtain ⟨rfl, hP, hK⟩ := hv
  have hts := atoms_spec (ws := w_Model_bars) B.pre
  have hall : ∀ w ∈ w_all, w.before _ s = true := fun w hw => hts w (List.mem_cons_of_mem _ hw)
  have hown : s.vm.findClass R_Model = some m.cls := findClass_of_methodNamed B.named
  have hx := B.exec
  have hb := B.bytes
  have hr := B.returns
  have hlk := B.notSynchronized
  have cx : Cx p s m _ meth c g R R_Model b_Model_bars 3 (some .int) := ⟨hx, hb, hml, hr, hlk, hown, hall, hT, hK⟩
  have hl := lv_entry ([.ref a0, .int x1, .int x2]) (n := 3) (Nat.le_of_ble_eq_true rfl)
  rw [lg_entry_eq]
  generalize (lg_sl ([.ref a0, .int x1, .int x2]) ++ List.replicate (3 - (lg_sl ([.ref a0, .int x1, .int x2])).length) Slot.unset).toArray = ls at hl ⊢
  have hl : lv_has ls 3 [(0, .ref a0), (1, .int x1), (2, .int x2)] := hl
  have hS : va_S (· ∈ g.L) s.heap s.heap [] := va_S.rf
  unfold F_Model_bars at h
  refine lv_aload_n hx hb d_Model_bars_0 rfl (lv_at hl 0 rfl) ?_
  refine gg_get (C := R_Model) (T := F_Model) (N := 23) (ci := 5) hx hb hall i_Model hown hK hP o0.1 (wE_5 o0.2) rfl 9 (by decide) (hall _ m_366) (fun _ h9 => h9) rfl d_Model_bars_1 ?_
  have o_1 : okA g 6 6 (R a0 9) := ty_Model_9 hT o0
  refine lv_iload_n hx hb d_Model_bars_4 rfl (lv_at hl 1 rfl) ?_
  obtain ⟨hi5, h⟩ := chk_el h
  refine gg_iald hx hb hK hP o_1 hi5 d_Model_bars_5 ?_
  refine lv_bipush (v := 60) hx hb d_Model_bars_6 (by decide) ?_
  refine lv_icmp_ne hx hb d_Model_bars_8 rfl (fun hc => ?_) (fun hc => ?_)
  · replace h := i_neg hc h
    refine lv_iload_n hx hb d_Model_bars_16 rfl (lv_at hl 2 rfl) ?_
    refine lv_aload_n hx hb d_Model_bars_17 rfl (lv_at hl 0 rfl) ?_
    refine gg_get (C := R_Model) (T := F_Model) (N := 23) (ci := 5) hx hb hall i_Model hown hK hP o0.1 (wE_5 o0.2) rfl 8 (by decide) (hall _ m_347) (fun _ h9 => h9) rfl d_Model_bars_18 ?_
    have o_18 : okA g 6 6 (R a0 8) := ty_Model_8 hT o0
    refine lv_iload_n hx hb d_Model_bars_21 rfl (lv_at hl 1 rfl) ?_
    obtain ⟨hi22, h⟩ := chk_el h
    refine gg_iald hx hb hK hP o_18 hi22 d_Model_bars_22 ?_
    refine lv_icmp_lt hx hb d_Model_bars_23 rfl (fun hc => ?_) (fun hc => ?_)
    · replace h := i_pos hc h
      refine lv_iconst (v := 0) hx hb d_Model_bars_31 (by decide) ?_
      obtain rfl := Option.some.inj h
      exact gg_iret hx hb hr hlk hK hP hS d_Model_bars_32
    · replace h := i_neg hc h
      refine lv_bipush (v := (-7)) hx hb d_Model_bars_26 (by decide) ?_
      refine lv_goto hx hb d_Model_bars_28 rfl ?_
      obtain rfl := Option.some.inj h
      exact gg_iret hx hb hr hlk hK hP hS d_Model_bars_32
  · replace h := i_pos hc h
    refine lv_bipush (v := (-6)) hx hb d_Model_bars_11 (by decide) ?_
    refine lv_goto hx hb d_Model_bars_13 rfl ?_
    obtain rfl := Option.some.inj h
    exact gg_iret hx hb hr hlk hK hP hS d_Model_bars_32
abbrev b_Model_put : ByteArray := prog_7_method_15_code
def y_Model_put : MethodName := ⟨"StampedStoreModel", "put", "(IIIII)V"⟩
def w_Model_put : List Cond := .code y_Model_put b_Model_put 7 none :: w_all
theorem d_Model_put_0 : decode b_Model_put 0 = .ok (.bipush 60, 2) := by decide +kernel
theorem d_Model_put_2 : decode b_Model_put 2 = .ok (.iload_n 1, 1) := by decide +kernel
theorem d_Model_put_3 : decode b_Model_put 3 = .ok (.imul, 1) := by decide +kernel
theorem d_Model_put_4 : decode b_Model_put 4 = .ok (.aload_n 0, 1) := by decide +kernel
theorem d_Model_put_5 : decode b_Model_put 5 = .ok (.getfield 32, 3) := by decide +kernel
theorem d_Model_put_8 : decode b_Model_put 8 = .ok (.iload_n 1, 1) := by decide +kernel
theorem d_Model_put_9 : decode b_Model_put 9 = .ok (.iaload, 1) := by decide +kernel
theorem d_Model_put_10 : decode b_Model_put 10 = .ok (.iadd, 1) := by decide +kernel
theorem d_Model_put_11 : decode b_Model_put 11 = .ok (.istore 6, 2) := by decide +kernel
theorem d_Model_put_13 : decode b_Model_put 13 = .ok (.aload_n 0, 1) := by decide +kernel
theorem d_Model_put_14 : decode b_Model_put 14 = .ok (.getfield 38, 3) := by decide +kernel
theorem d_Model_put_17 : decode b_Model_put 17 = .ok (.iload 6, 2) := by decide +kernel
theorem d_Model_put_19 : decode b_Model_put 19 = .ok (.aload_n 0, 1) := by decide +kernel
theorem d_Model_put_20 : decode b_Model_put 20 = .ok (.getfield 17, 3) := by decide +kernel
theorem d_Model_put_23 : decode b_Model_put 23 = .ok (.iload_n 1, 1) := by decide +kernel
theorem d_Model_put_24 : decode b_Model_put 24 = .ok (.iaload, 1) := by decide +kernel
theorem d_Model_put_25 : decode b_Model_put 25 = .ok (.iastore, 1) := by decide +kernel
theorem d_Model_put_26 : decode b_Model_put 26 = .ok (.aload_n 0, 1) := by decide +kernel
theorem d_Model_put_27 : decode b_Model_put 27 = .ok (.getfield 41, 3) := by decide +kernel
theorem d_Model_put_30 : decode b_Model_put 30 = .ok (.iload 6, 2) := by decide +kernel
theorem d_Model_put_32 : decode b_Model_put 32 = .ok (.iload 5, 2) := by decide +kernel
theorem d_Model_put_34 : decode b_Model_put 34 = .ok (.iastore, 1) := by decide +kernel
theorem d_Model_put_35 : decode b_Model_put 35 = .ok (.aload_n 0, 1) := by decide +kernel
theorem d_Model_put_36 : decode b_Model_put 36 = .ok (.getfield 44, 3) := by decide +kernel
theorem d_Model_put_39 : decode b_Model_put 39 = .ok (.iload 6, 2) := by decide +kernel
theorem d_Model_put_41 : decode b_Model_put 41 = .ok (.iload_n 2, 1) := by decide +kernel
theorem d_Model_put_42 : decode b_Model_put 42 = .ok (.iastore, 1) := by decide +kernel
theorem d_Model_put_43 : decode b_Model_put 43 = .ok (.aload_n 0, 1) := by decide +kernel
theorem d_Model_put_44 : decode b_Model_put 44 = .ok (.getfield 47, 3) := by decide +kernel
theorem d_Model_put_47 : decode b_Model_put 47 = .ok (.iload 6, 2) := by decide +kernel
theorem d_Model_put_49 : decode b_Model_put 49 = .ok (.iload_n 3, 1) := by decide +kernel
theorem d_Model_put_50 : decode b_Model_put 50 = .ok (.iastore, 1) := by decide +kernel
theorem d_Model_put_51 : decode b_Model_put 51 = .ok (.aload_n 0, 1) := by decide +kernel
theorem d_Model_put_52 : decode b_Model_put 52 = .ok (.getfield 50, 3) := by decide +kernel
theorem d_Model_put_55 : decode b_Model_put 55 = .ok (.iload 6, 2) := by decide +kernel
theorem d_Model_put_57 : decode b_Model_put 57 = .ok (.iload 4, 2) := by decide +kernel
theorem d_Model_put_59 : decode b_Model_put 59 = .ok (.iastore, 1) := by decide +kernel
theorem d_Model_put_60 : decode b_Model_put 60 = .ok (.aload_n 0, 1) := by decide +kernel
theorem d_Model_put_61 : decode b_Model_put 61 = .ok (.getfield 32, 3) := by decide +kernel
theorem d_Model_put_64 : decode b_Model_put 64 = .ok (.iload_n 1, 1) := by decide +kernel
theorem d_Model_put_65 : decode b_Model_put 65 = .ok (.dup2, 1) := by decide +kernel
theorem d_Model_put_66 : decode b_Model_put 66 = .ok (.iaload, 1) := by decide +kernel
theorem d_Model_put_67 : decode b_Model_put 67 = .ok (.iconst 1, 1) := by decide +kernel
theorem d_Model_put_68 : decode b_Model_put 68 = .ok (.iadd, 1) := by decide +kernel
theorem d_Model_put_69 : decode b_Model_put 69 = .ok (.iastore, 1) := by decide +kernel
theorem d_Model_put_70 : decode b_Model_put 70 = .ok (.return_, 1) := by decide +kernel
def F_Model_put (R : Nat → Nat → Nat) (a0 : Nat) (x1 : Int32) (x2 : Int32) (x3 : Int32) (x4 : Int32) (x5 : Int32) (I : St) : Option St := (chk x1 6 ((chk x1 6 ((chk (((60 : Int32) * x1) + (I (R a0 9) x1.toNatClampNeg)) 360 (ap (up2 I (R a0 11) (((60 : Int32) * x1) + (I (R a0 9) x1.toNatClampNeg)).toNatClampNeg (I (R a0 4) x1.toNatClampNeg)) (fun I25 => (chk (((60 : Int32) * x1) + (I (R a0 9) x1.toNatClampNeg)) 360 (ap (up2 I25 (R a0 12) (((60 : Int32) * x1) + (I (R a0 9) x1.toNatClampNeg)).toNatClampNeg x5) (fun I34 => (chk (((60 : Int32) * x1) + (I (R a0 9) x1.toNatClampNeg)) 360 (ap (up2 I34 (R a0 13) (((60 : Int32) * x1) + (I (R a0 9) x1.toNatClampNeg)).toNatClampNeg x2) (fun I42 => (chk (((60 : Int32) * x1) + (I (R a0 9) x1.toNatClampNeg)) 360 (ap (up2 I42 (R a0 14) (((60 : Int32) * x1) + (I (R a0 9) x1.toNatClampNeg)).toNatClampNeg x3) (fun I50 => (chk (((60 : Int32) * x1) + (I (R a0 9) x1.toNatClampNeg)) 360 (ap (up2 I50 (R a0 15) (((60 : Int32) * x1) + (I (R a0 9) x1.toNatClampNeg)).toNatClampNeg x4) (fun I59 => (chk x1 6 ((chk x1 6 (ap (up2 I59 (R a0 9) x1.toNatClampNeg ((I59 (R a0 9) x1.toNatClampNeg) + (1 : Int32))) (fun I69 => some I69))))))))))))))))))))))))
set_option maxHeartbeats 4000000 in
set_option maxRecDepth 100000 in
theorem c_Model_put (l : Launch) {g : Sg} {R : Nat → Nat → Nat} (hT : Ty g R) {a0 : Nat} (o0 : okA g 5 0 a0) {x1 : Int32} {x2 : Int32} {x3 : Int32} {x4 : Int32} {x5 : Int32} {I : St} {J : St} (h : F_Model_put R a0 x1 x2 x3 x4 x5 I = some J) : Ctv l g R y_Model_put w_Model_put 0 0 [.ref a0, .int x1, .int x2, .int x3, .int x4, .int x5] I J := by
  unfold Ctv
  refine Met.ofW (cc := b_Model_put) (maxL := 7) (ret := none) (by decide) rfl ?_
  intro p e s m args below meth c s₁ B hml hv
  obtain ⟨rfl, hP, hK⟩ := hv
  have hts := atoms_spec (ws := w_Model_put) B.pre
  have hall : ∀ w ∈ w_all, w.before _ s = true := fun w hw => hts w (List.mem_cons_of_mem _ hw)
  have hown : s.vm.findClass R_Model = some m.cls := findClass_of_methodNamed B.named
  have hx := B.exec
  have hb := B.bytes
  have hr := B.returns
  have hlk := B.notSynchronized
  have cx : Cx p s m _ meth c g R R_Model b_Model_put 7 none := ⟨hx, hb, hml, hr, hlk, hown, hall, hT, hK⟩
  have hl := lv_entry ([.ref a0, .int x1, .int x2, .int x3, .int x4, .int x5]) (n := 7) (Nat.le_of_ble_eq_true rfl)
  rw [lg_entry_eq]
  generalize (lg_sl ([.ref a0, .int x1, .int x2, .int x3, .int x4, .int x5]) ++ List.replicate (7 - (lg_sl ([.ref a0, .int x1, .int x2, .int x3, .int x4, .int x5])).length) Slot.unset).toArray = ls at hl ⊢
  have hl : lv_has ls 7 [(0, .ref a0), (1, .int x1), (2, .int x2), (3, .int x3), (4, .int x4), (5, .int x5)] := hl
  have hS : va_S (· ∈ g.L) s.heap s.heap [] := va_S.rf
  unfold F_Model_put at h
  refine lv_bipush (v := 60) hx hb d_Model_put_0 (by decide) ?_
  refine lv_iload_n hx hb d_Model_put_2 rfl (lv_at hl 1 rfl) ?_
  refine lv_imul hx hb d_Model_put_3 ?_
  refine lv_aload_n hx hb d_Model_put_4 rfl (lv_at hl 0 rfl) ?_
  refine gg_get (C := R_Model) (T := F_Model) (N := 23) (ci := 5) hx hb hall i_Model hown hK hP o0.1 (wE_5 o0.2) rfl 9 (by decide) (hall _ m_366) (fun _ h9 => h9) rfl d_Model_put_5 ?_
  have o_5 : okA g 6 6 (R a0 9) := ty_Model_9 hT o0
  refine lv_iload_n hx hb d_Model_put_8 rfl (lv_at hl 1 rfl) ?_
  obtain ⟨hi9, h⟩ := chk_el h
  refine gg_iald hx hb hK hP o_5 hi9 d_Model_put_9 ?_
  refine lv_iadd hx hb d_Model_put_10 ?_
  refine lv_istore (lv' := [(6, .int (((60 : Int32) * x1) + (I (R a0 9) x1.toNatClampNeg))), (0, .ref a0), (1, .int x1), (2, .int x2), (3, .int x3), (4, .int x4), (5, .int x5)]) hx hb d_Model_put_11 hl (Nat.le_of_ble_eq_true rfl) rfl (fun ls hl => ?_)
  refine lv_aload_n hx hb d_Model_put_13 rfl (lv_at hl 1 rfl) ?_
  refine gg_get (C := R_Model) (T := F_Model) (N := 23) (ci := 5) hx hb hall i_Model hown hK hP o0.1 (wE_5 o0.2) rfl 11 (by decide) (hall _ m_353) (fun _ h9 => h9) rfl d_Model_put_14 ?_
  have o_14 : okA g 6 360 (R a0 11) := ty_Model_11 hT o0
  refine lv_iload hx hb d_Model_put_17 (lv_at hl 0 rfl) ?_
  refine lv_aload_n hx hb d_Model_put_19 rfl (lv_at hl 1 rfl) ?_
  refine gg_get (C := R_Model) (T := F_Model) (N := 23) (ci := 5) hx hb hall i_Model hown hK hP o0.1 (wE_5 o0.2) rfl 4 (by decide) (hall _ m_354) (fun _ h9 => h9) rfl d_Model_put_20 ?_
  have o_20 : okA g 6 6 (R a0 4) := ty_Model_4 hT o0
  refine lv_iload_n hx hb d_Model_put_23 rfl (lv_at hl 2 rfl) ?_
  obtain ⟨hi24, h⟩ := chk_el h
  refine gg_iald hx hb hK hP o_20 hi24 d_Model_put_24 ?_
  obtain ⟨hi25, h⟩ := chk_el h
  refine gg_iast hx hb hT.1 hK hP hS o_14 hi25 d_Model_put_25 (fun I25 H locs e25 hP hS => ?_)
  replace h := ap_el e25 h
  refine lv_aload_n hx hb d_Model_put_26 rfl (lv_at hl 1 rfl) ?_
  refine gg_get (C := R_Model) (T := F_Model) (N := 23) (ci := 5) hx hb hall i_Model hown hK hP o0.1 (wE_5 o0.2) rfl 12 (by decide) (hall _ m_367) (fun _ h9 => h9) rfl d_Model_put_27 ?_
  have o_27 : okA g 6 360 (R a0 12) := ty_Model_12 hT o0
  refine lv_iload hx hb d_Model_put_30 (lv_at hl 0 rfl) ?_
  refine lv_iload hx hb d_Model_put_32 (lv_at hl 6 rfl) ?_
  obtain ⟨hi34, h⟩ := chk_el h
  refine gg_iast hx hb hT.1 hK hP hS o_27 hi34 d_Model_put_34 (fun I34 H locs e34 hP hS => ?_)
  replace h := ap_el e34 h
  refine lv_aload_n hx hb d_Model_put_35 rfl (lv_at hl 1 rfl) ?_
  refine gg_get (C := R_Model) (T := F_Model) (N := 23) (ci := 5) hx hb hall i_Model hown hK hP o0.1 (wE_5 o0.2) rfl 13 (by decide) (hall _ m_364) (fun _ h9 => h9) rfl d_Model_put_36 ?_
  have o_36 : okA g 6 360 (R a0 13) := ty_Model_13 hT o0
  refine lv_iload hx hb d_Model_put_39 (lv_at hl 0 rfl) ?_
  refine lv_iload_n hx hb d_Model_put_41 rfl (lv_at hl 3 rfl) ?_
  obtain ⟨hi42, h⟩ := chk_el h
  refine gg_iast hx hb hT.1 hK hP hS o_36 hi42 d_Model_put_42 (fun I42 H locs e42 hP hS => ?_)
  replace h := ap_el e42 h
  refine lv_aload_n hx hb d_Model_put_43 rfl (lv_at hl 1 rfl) ?_
  refine gg_get (C := R_Model) (T := F_Model) (N := 23) (ci := 5) hx hb hall i_Model hown hK hP o0.1 (wE_5 o0.2) rfl 14 (by decide) (hall _ m_370) (fun _ h9 => h9) rfl d_Model_put_44 ?_
  have o_44 : okA g 6 360 (R a0 14) := ty_Model_14 hT o0
  refine lv_iload hx hb d_Model_put_47 (lv_at hl 0 rfl) ?_
  refine lv_iload_n hx hb d_Model_put_49 rfl (lv_at hl 4 rfl) ?_
  obtain ⟨hi50, h⟩ := chk_el h
  refine gg_iast hx hb hT.1 hK hP hS o_44 hi50 d_Model_put_50 (fun I50 H locs e50 hP hS => ?_)
  replace h := ap_el e50 h
  refine lv_aload_n hx hb d_Model_put_51 rfl (lv_at hl 1 rfl) ?_
  refine gg_get (C := R_Model) (T := F_Model) (N := 23) (ci := 5) hx hb hall i_Model hown hK hP o0.1 (wE_5 o0.2) rfl 15 (by decide) (hall _ m_365) (fun _ h9 => h9) rfl d_Model_put_52 ?_
  have o_52 : okA g 6 360 (R a0 15) := ty_Model_15 hT o0
  refine lv_iload hx hb d_Model_put_55 (lv_at hl 0 rfl) ?_
  refine lv_iload hx hb d_Model_put_57 (lv_at hl 5 rfl) ?_
  obtain ⟨hi59, h⟩ := chk_el h
  refine gg_iast hx hb hT.1 hK hP hS o_52 hi59 d_Model_put_59 (fun I59 H locs e59 hP hS => ?_)
  replace h := ap_el e59 h
  refine lv_aload_n hx hb d_Model_put_60 rfl (lv_at hl 1 rfl) ?_
  refine gg_get (C := R_Model) (T := F_Model) (N := 23) (ci := 5) hx hb hall i_Model hown hK hP o0.1 (wE_5 o0.2) rfl 9 (by decide) (hall _ m_366) (fun _ h9 => h9) rfl d_Model_put_61 ?_
  have o_61 : okA g 6 6 (R a0 9) := ty_Model_9 hT o0
  refine lv_iload_n hx hb d_Model_put_64 rfl (lv_at hl 2 rfl) ?_
  refine lv_dup2_11 hx hb d_Model_put_65 rfl rfl ?_
  obtain ⟨hi66, h⟩ := chk_el h
  refine gg_iald hx hb hK hP o_61 hi66 d_Model_put_66 ?_
  refine lv_iconst (v := 1) hx hb d_Model_put_67 (by decide) ?_
  refine lv_iadd hx hb d_Model_put_68 ?_
  obtain ⟨hi69, h⟩ := chk_el h
  refine gg_iast hx hb hT.1 hK hP hS o_61 hi69 d_Model_put_69 (fun I69 H locs e69 hP hS => ?_)
  replace h := ap_el e69 h
  obtain rfl := Option.some.inj h
  exact gg_vret hx hb hr hlk hK hP hS d_Model_put_70
abbrev b_Model_find : ByteArray := prog_7_method_16_code
def y_Model_find : MethodName := ⟨"StampedStoreModel", "find", "(IIII)I"⟩
def w_Model_find : List Cond := .code y_Model_find b_Model_find 7 (some .int) :: w_all
theorem d_Model_find_0 : decode b_Model_find 0 = .ok (.iconst (-1), 1) := by decide +kernel
theorem d_Model_find_1 : decode b_Model_find 1 = .ok (.istore 5, 2) := by decide +kernel
theorem d_Model_find_3 : decode b_Model_find 3 = .ok (.iconst 0, 1) := by decide +kernel
theorem d_Model_find_4 : decode b_Model_find 4 = .ok (.istore 6, 2) := by decide +kernel
theorem d_Model_find_6 : decode b_Model_find 6 = .ok (.iload 6, 2) := by decide +kernel
theorem d_Model_find_8 : decode b_Model_find 8 = .ok (.iload 4, 2) := by decide +kernel
theorem d_Model_find_10 : decode b_Model_find 10 = .ok (.if_icmp .ge 50, 3) := by decide +kernel
theorem d_Model_find_13 : decode b_Model_find 13 = .ok (.aload_n 0, 1) := by decide +kernel
theorem d_Model_find_14 : decode b_Model_find 14 = .ok (.getfield 44, 3) := by decide +kernel
theorem d_Model_find_17 : decode b_Model_find 17 = .ok (.bipush 60, 2) := by decide +kernel
theorem d_Model_find_19 : decode b_Model_find 19 = .ok (.iload_n 1, 1) := by decide +kernel
theorem d_Model_find_20 : decode b_Model_find 20 = .ok (.imul, 1) := by decide +kernel
theorem d_Model_find_21 : decode b_Model_find 21 = .ok (.iload 6, 2) := by decide +kernel
theorem d_Model_find_23 : decode b_Model_find 23 = .ok (.iadd, 1) := by decide +kernel
theorem d_Model_find_24 : decode b_Model_find 24 = .ok (.iaload, 1) := by decide +kernel
theorem d_Model_find_25 : decode b_Model_find 25 = .ok (.iload_n 3, 1) := by decide +kernel
theorem d_Model_find_26 : decode b_Model_find 26 = .ok (.if_icmp .ne 24, 3) := by decide +kernel
theorem d_Model_find_29 : decode b_Model_find 29 = .ok (.aload_n 0, 1) := by decide +kernel
theorem d_Model_find_30 : decode b_Model_find 30 = .ok (.getfield 47, 3) := by decide +kernel
theorem d_Model_find_33 : decode b_Model_find 33 = .ok (.bipush 60, 2) := by decide +kernel
theorem d_Model_find_35 : decode b_Model_find 35 = .ok (.iload_n 1, 1) := by decide +kernel
theorem d_Model_find_36 : decode b_Model_find 36 = .ok (.imul, 1) := by decide +kernel
theorem d_Model_find_37 : decode b_Model_find 37 = .ok (.iload 6, 2) := by decide +kernel
theorem d_Model_find_39 : decode b_Model_find 39 = .ok (.iadd, 1) := by decide +kernel
theorem d_Model_find_40 : decode b_Model_find 40 = .ok (.iaload, 1) := by decide +kernel
theorem d_Model_find_41 : decode b_Model_find 41 = .ok (.iload_n 2, 1) := by decide +kernel
theorem d_Model_find_42 : decode b_Model_find 42 = .ok (.if_icmp .ne 8, 3) := by decide +kernel
theorem d_Model_find_45 : decode b_Model_find 45 = .ok (.iload 6, 2) := by decide +kernel
theorem d_Model_find_47 : decode b_Model_find 47 = .ok (.goto 5, 3) := by decide +kernel
theorem d_Model_find_50 : decode b_Model_find 50 = .ok (.iload 5, 2) := by decide +kernel
theorem d_Model_find_52 : decode b_Model_find 52 = .ok (.istore 5, 2) := by decide +kernel
theorem d_Model_find_54 : decode b_Model_find 54 = .ok (.iinc 6 1, 3) := by decide +kernel
theorem d_Model_find_57 : decode b_Model_find 57 = .ok (.goto (-51), 3) := by decide +kernel
theorem d_Model_find_60 : decode b_Model_find 60 = .ok (.iload 5, 2) := by decide +kernel
theorem d_Model_find_62 : decode b_Model_find 62 = .ok (.ireturn, 1) := by decide +kernel
def B_Model_find_52 (R : Nat → Nat → Nat) (I : St) (k6 : Nat → Int32 → Int32 → Int32 → Int32 → Int32 → Int32 → Option Int32) (a0 : Nat) (x1 : Int32) (x2 : Int32) (x3 : Int32) (x4 : Int32) (x6 : Int32) (t0 : Int32) : Option Int32 := k6 a0 x1 x2 x3 x4 t0 (x6 + 1)
set_option maxHeartbeats 4000000 in
set_option maxRecDepth 100000 in
theorem b_Model_find_52 {p : Program} {l : Launch} {e : Env} {s : State} {m : MethodId} {args : Array Value} {below : List Frame} {meth : Method} {c : Code} {g : Sg} {R : Nat → Nat → Nat} {I : St} {v : Int32} (cx : Cx p s m args meth c g R R_Model b_Model_find 7 (some .int)) {k6 : Nat → Int32 → Int32 → Int32 → Int32 → Int32 → Int32 → Option Int32} (hk6 : ∀ (a0 : Nat) (x1 : Int32) (x2 : Int32) (x3 : Int32) (x4 : Int32) (x5 : Int32) (x6 : Int32) (H : Heap) (locs : List Loc) (ls : Array Slot), okA g 5 0 a0 → k6 a0 x1 x2 x3 x4 x5 x6 = some v → wW g R I H → va_S (· ∈ g.L) s.heap H locs → lv_has ls 7 [(0, .ref a0), (1, .int x1), (2, .int x2), (3, .int x3), (4, .int x4), (5, .int x5), (6, .int x6)] → W p l e { frames := 0, cells := 0, slots := 0, locals := 0 } s m args below meth c H locs 0 0 (MQ below (Qi g R v I) args s 0 0 (· ∈ g.L)) (F0 m 6 ls [])) : ∀ (a0 : Nat) (x1 : Int32) (x2 : Int32) (x3 : Int32) (x4 : Int32) (x6 : Int32) (t0 : Int32) (H : Heap) (locs : List Loc) (ls : Array Slot), okA g 5 0 a0 → B_Model_find_52 R I k6 a0 x1 x2 x3 x4 x6 t0 = some v → wW g R I H → va_S (· ∈ g.L) s.heap H locs → lv_has ls 7 [(0, .ref a0), (1, .int x1), (2, .int x2), (3, .int x3), (4, .int x4), (6, .int x6)] → W p l e { frames := 0, cells := 0, slots := 0, locals := 0 } s m args below meth c H locs 0 0 (MQ below (Qi g R v I) args s 0 0 (· ∈ g.L)) (F0 m 52 ls [.int t0]) := by
  have ⟨hx, hb, hml, hr, hlk, hown, hall, hT, hK⟩ := cx
  intro a0 x1 x2 x3 x4 x6 t0 H locs ls o0 h hP hS hl
  unfold B_Model_find_52 at h
  refine lv_istore (lv' := [(5, .int t0), (0, .ref a0), (1, .int x1), (2, .int x2), (3, .int x3), (4, .int x4), (6, .int x6)]) hx hb d_Model_find_52 hl (Nat.le_of_ble_eq_true rfl) rfl (fun ls hl => ?_)
  refine lv_iinc (k := 6) (v := (x6 + 1)) (lv' := [(6, .int (x6 + 1)), (5, .int t0), (0, .ref a0), (1, .int x1), (2, .int x2), (3, .int x3), (4, .int x4)]) hx hb d_Model_find_54 hl rfl (by rw [show Int32.ofInt 1 = (1 : Int32) from by decide]) (Nat.le_of_ble_eq_true rfl) rfl (fun ls hl => ?_)
  refine lv_goto hx hb d_Model_find_57 rfl ?_
  exact hk6 _ _ _ _ _ _ _ _ _ _ o0 h hP hS (lv_sub hl [2, 3, 4, 5, 6, 1, 0] rfl)
def B_Model_find_50 (R : Nat → Nat → Nat) (I : St) (k6 : Nat → Int32 → Int32 → Int32 → Int32 → Int32 → Int32 → Option Int32) (a0 : Nat) (x1 : Int32) (x2 : Int32) (x3 : Int32) (x4 : Int32) (x5 : Int32) (x6 : Int32) : Option Int32 := B_Model_find_52 R I k6 a0 x1 x2 x3 x4 x6 x5
set_option maxHeartbeats 4000000 in
set_option maxRecDepth 100000 in
theorem b_Model_find_50 {p : Program} {l : Launch} {e : Env} {s : State} {m : MethodId} {args : Array Value} {below : List Frame} {meth : Method} {c : Code} {g : Sg} {R : Nat → Nat → Nat} {I : St} {v : Int32} (cx : Cx p s m args meth c g R R_Model b_Model_find 7 (some .int)) {k6 : Nat → Int32 → Int32 → Int32 → Int32 → Int32 → Int32 → Option Int32} (hk6 : ∀ (a0 : Nat) (x1 : Int32) (x2 : Int32) (x3 : Int32) (x4 : Int32) (x5 : Int32) (x6 : Int32) (H : Heap) (locs : List Loc) (ls : Array Slot), okA g 5 0 a0 → k6 a0 x1 x2 x3 x4 x5 x6 = some v → wW g R I H → va_S (· ∈ g.L) s.heap H locs → lv_has ls 7 [(0, .ref a0), (1, .int x1), (2, .int x2), (3, .int x3), (4, .int x4), (5, .int x5), (6, .int x6)] → W p l e { frames := 0, cells := 0, slots := 0, locals := 0 } s m args below meth c H locs 0 0 (MQ below (Qi g R v I) args s 0 0 (· ∈ g.L)) (F0 m 6 ls [])) : ∀ (a0 : Nat) (x1 : Int32) (x2 : Int32) (x3 : Int32) (x4 : Int32) (x5 : Int32) (x6 : Int32) (H : Heap) (locs : List Loc) (ls : Array Slot), okA g 5 0 a0 → B_Model_find_50 R I k6 a0 x1 x2 x3 x4 x5 x6 = some v → wW g R I H → va_S (· ∈ g.L) s.heap H locs → lv_has ls 7 [(0, .ref a0), (1, .int x1), (2, .int x2), (3, .int x3), (4, .int x4), (5, .int x5), (6, .int x6)] → W p l e { frames := 0, cells := 0, slots := 0, locals := 0 } s m args below meth c H locs 0 0 (MQ below (Qi g R v I) args s 0 0 (· ∈ g.L)) (F0 m 50 ls []) := by
  have ⟨hx, hb, hml, hr, hlk, hown, hall, hT, hK⟩ := cx
  intro a0 x1 x2 x3 x4 x5 x6 H locs ls o0 h hP hS hl
  unfold B_Model_find_50 at h
  refine lv_iload hx hb d_Model_find_50 (lv_at hl 5 rfl) ?_
  exact b_Model_find_52 cx hk6 _ _ _ _ _ _ _ _ _ _ o0 h hP hS (lv_sub hl [0, 1, 2, 3, 4, 6] rfl)
def B_Model_find_6 (R : Nat → Nat → Nat) (I : St) : Nat → Nat → Int32 → Int32 → Int32 → Int32 → Int32 → Int32 → Option Int32
  | 0, _, _, _, _, _, _, _ => none
  | f + 1, a0, x1, x2, x3, x4, x5, x6 => (if x4 ≤ x6 then some x5 else (chk (((60 : Int32) * x1) + x6) 360 ((if (I (R a0 13) (((60 : Int32) * x1) + x6).toNatClampNeg) = x3 then (chk (((60 : Int32) * x1) + x6) 360 ((if (I (R a0 14) (((60 : Int32) * x1) + x6).toNatClampNeg) = x2 then B_Model_find_52 R I (B_Model_find_6 R I f) a0 x1 x2 x3 x4 x6 x6 else B_Model_find_50 R I (B_Model_find_6 R I f) a0 x1 x2 x3 x4 x5 x6))) else B_Model_find_50 R I (B_Model_find_6 R I f) a0 x1 x2 x3 x4 x5 x6))))
set_option maxHeartbeats 4000000 in
set_option maxRecDepth 100000 in
theorem b_Model_find_6 {p : Program} {l : Launch} {e : Env} {s : State} {m : MethodId} {args : Array Value} {below : List Frame} {meth : Method} {c : Code} {g : Sg} {R : Nat → Nat → Nat} {I : St} {v : Int32} (cx : Cx p s m args meth c g R R_Model b_Model_find 7 (some .int)) (f : Nat) : ∀ (a0 : Nat) (x1 : Int32) (x2 : Int32) (x3 : Int32) (x4 : Int32) (x5 : Int32) (x6 : Int32) (H : Heap) (locs : List Loc) (ls : Array Slot), okA g 5 0 a0 → B_Model_find_6 R I f a0 x1 x2 x3 x4 x5 x6 = some v → wW g R I H → va_S (· ∈ g.L) s.heap H locs → lv_has ls 7 [(0, .ref a0), (1, .int x1), (2, .int x2), (3, .int x3), (4, .int x4), (5, .int x5), (6, .int x6)] → W p l e { frames := 0, cells := 0, slots := 0, locals := 0 } s m args below meth c H locs 0 0 (MQ below (Qi g R v I) args s 0 0 (· ∈ g.L)) (F0 m 6 ls []) := by
  have ⟨hx, hb, hml, hr, hlk, hown, hall, hT, hK⟩ := cx
  induction f with
  | zero => intro a0 x1 x2 x3 x4 x5 x6 H locs ls o0 h; unfold B_Model_find_6 at h; cases h
  | succ f ih =>
    intro a0 x1 x2 x3 x4 x5 x6 H locs ls o0 h hP hS hl
    unfold B_Model_find_6 at h
    refine lv_iload hx hb d_Model_find_6 (lv_at hl 6 rfl) ?_
    refine lv_iload hx hb d_Model_find_8 (lv_at hl 4 rfl) ?_
    refine lv_icmp_ge hx hb d_Model_find_10 rfl (fun hc => ?_) (fun hc => ?_)
    · replace h := i_pos hc h
      refine lv_iload hx hb d_Model_find_60 (lv_at hl 5 rfl) ?_
      obtain rfl := Option.some.inj h
      exact gg_iret hx hb hr hlk hK hP hS d_Model_find_62
    · replace h := i_neg hc h
      refine lv_aload_n hx hb d_Model_find_13 rfl (lv_at hl 0 rfl) ?_
      refine gg_get (C := R_Model) (T := F_Model) (N := 23) (ci := 5) hx hb hall i_Model hown hK hP o0.1 (wE_5 o0.2) rfl 13 (by decide) (hall _ m_364) (fun _ h9 => h9) rfl d_Model_find_14 ?_
      have o_14 : okA g 6 360 (R a0 13) := ty_Model_13 hT o0
      refine lv_bipush (v := 60) hx hb d_Model_find_17 (by decide) ?_
      refine lv_iload_n hx hb d_Model_find_19 rfl (lv_at hl 1 rfl) ?_
      refine lv_imul hx hb d_Model_find_20 ?_
      refine lv_iload hx hb d_Model_find_21 (lv_at hl 6 rfl) ?_
      refine lv_iadd hx hb d_Model_find_23 ?_
      obtain ⟨hi24, h⟩ := chk_el h
      refine gg_iald hx hb hK hP o_14 hi24 d_Model_find_24 ?_
      refine lv_iload_n hx hb d_Model_find_25 rfl (lv_at hl 3 rfl) ?_
      refine lv_icmp_ne hx hb d_Model_find_26 rfl (fun hc => ?_) (fun hc => ?_)
      · replace h := i_neg hc h
        exact b_Model_find_50 cx ih _ _ _ _ _ _ _ _ _ _ o0 h hP hS (lv_sub hl [0, 1, 2, 3, 4, 5, 6] rfl)
      · replace h := i_pos hc h
        refine lv_aload_n hx hb d_Model_find_29 rfl (lv_at hl 0 rfl) ?_
        refine gg_get (C := R_Model) (T := F_Model) (N := 23) (ci := 5) hx hb hall i_Model hown hK hP o0.1 (wE_5 o0.2) rfl 14 (by decide) (hall _ m_370) (fun _ h9 => h9) rfl d_Model_find_30 ?_
        have o_30 : okA g 6 360 (R a0 14) := ty_Model_14 hT o0
        refine lv_bipush (v := 60) hx hb d_Model_find_33 (by decide) ?_
        refine lv_iload_n hx hb d_Model_find_35 rfl (lv_at hl 1 rfl) ?_
        refine lv_imul hx hb d_Model_find_36 ?_
        refine lv_iload hx hb d_Model_find_37 (lv_at hl 6 rfl) ?_
        refine lv_iadd hx hb d_Model_find_39 ?_
        obtain ⟨hi40, h⟩ := chk_el h
        refine gg_iald hx hb hK hP o_30 hi40 d_Model_find_40 ?_
        refine lv_iload_n hx hb d_Model_find_41 rfl (lv_at hl 2 rfl) ?_
        refine lv_icmp_ne hx hb d_Model_find_42 rfl (fun hc => ?_) (fun hc => ?_)
        · replace h := i_neg hc h
          exact b_Model_find_50 cx ih _ _ _ _ _ _ _ _ _ _ o0 h hP hS (lv_sub hl [0, 1, 2, 3, 4, 5, 6] rfl)
        · replace h := i_pos hc h
          refine lv_iload hx hb d_Model_find_45 (lv_at hl 6 rfl) ?_
          refine lv_goto hx hb d_Model_find_47 rfl ?_
          exact b_Model_find_52 cx ih _ _ _ _ _ _ _ _ _ _ o0 h hP hS (lv_sub hl [0, 1, 2, 3, 4, 6] rfl)
def F_Model_find (R : Nat → Nat → Nat) (a0 : Nat) (x1 : Int32) (x2 : Int32) (x3 : Int32) (x4 : Int32) (I : St) : Option Int32 := B_Model_find_6 R I 100 a0 x1 x2 x3 x4 (-1 : Int32) (0 : Int32)
set_option maxHeartbeats 4000000 in
set_option maxRecDepth 100000 in
theorem c_Model_find (l : Launch) {g : Sg} {R : Nat → Nat → Nat} (hT : Ty g R) {a0 : Nat} (o0 : okA g 5 0 a0) {x1 : Int32} {x2 : Int32} {x3 : Int32} {x4 : Int32} {I : St} {v : Int32} (h : F_Model_find R a0 x1 x2 x3 x4 I = some v) : Cti l g R y_Model_find w_Model_find 0 0 [.ref a0, .int x1, .int x2, .int x3, .int x4] I v I := by
  unfold Cti
  refine Met.ofW (cc := b_Model_find) (maxL := 7) (ret := (some .int)) (by decide) rfl ?_
  intro p e s m args below meth c s₁ B hml hv
  obtain ⟨rfl, hP, hK⟩ := hv
  have hts := atoms_spec (ws := w_Model_find) B.pre
  have hall : ∀ w ∈ w_all, w.before _ s = true := fun w hw => hts w (List.mem_cons_of_mem _ hw)
  have hown : s.vm.findClass R_Model = some m.cls := findClass_of_methodNamed B.named
  have hx := B.exec
  have hb := B.bytes
  have hr := B.returns
  have hlk := B.notSynchronized
  have cx : Cx p s m _ meth c g R R_Model b_Model_find 7 (some .int) := ⟨hx, hb, hml, hr, hlk, hown, hall, hT, hK⟩
  have hl := lv_entry ([.ref a0, .int x1, .int x2, .int x3, .int x4]) (n := 7) (Nat.le_of_ble_eq_true rfl)
  rw [lg_entry_eq]
  generalize (lg_sl ([.ref a0, .int x1, .int x2, .int x3, .int x4]) ++ List.replicate (7 - (lg_sl ([.ref a0, .int x1, .int x2, .int x3, .int x4])).length) Slot.unset).toArray = ls at hl ⊢
  have hl : lv_has ls 7 [(0, .ref a0), (1, .int x1), (2, .int x2), (3, .int x3), (4, .int x4)] := hl
  have hS : va_S (· ∈ g.L) s.heap s.heap [] := va_S.rf
  unfold F_Model_find at h
  refine lv_iconst (v := (-1)) hx hb d_Model_find_0 (by decide) ?_
  refine lv_istore (lv' := [(5, .int (-1 : Int32)), (0, .ref a0), (1, .int x1), (2, .int x2), (3, .int x3), (4, .int x4)]) hx hb d_Model_find_1 hl (Nat.le_of_ble_eq_true rfl) rfl (fun ls hl => ?_)
  refine lv_iconst (v := 0) hx hb d_Model_find_3 (by decide) ?_
  refine lv_istore (lv' := [(6, .int (0 : Int32)), (5, .int (-1 : Int32)), (0, .ref a0), (1, .int x1), (2, .int x2), (3, .int x3), (4, .int x4)]) hx hb d_Model_find_4 hl (Nat.le_of_ble_eq_true rfl) rfl (fun ls hl => ?_)
  exact b_Model_find_6 cx 100 _ _ _ _ _ _ _ _ _ _ o0 h hP hS (lv_sub hl [2, 3, 4, 5, 6, 1, 0] rfl)
end
