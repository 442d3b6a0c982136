section
abbrev b_Node_isActive : ByteArray := prog_4_method_4_code
def y_Node_isActive : MethodName := ⟨"StampedStore$Node", "isActive", "()Z"⟩
def w_Node_isActive : List Cond := .code y_Node_isActive b_Node_isActive 1 (some .boolean) :: w_all
theorem d_Node_isActive_0 : decode b_Node_isActive 0 = .ok (.aload_n 0, 1) := by decide +kernel
theorem d_Node_isActive_1 : decode b_Node_isActive 1 = .ok (.getfield 44, 3) := by decide +kernel
theorem d_Node_isActive_4 : decode b_Node_isActive 4 = .ok (.ifCond .eq 18, 3) := by decide +kernel
theorem d_Node_isActive_7 : decode b_Node_isActive 7 = .ok (.aload_n 0, 1) := by decide +kernel
theorem d_Node_isActive_8 : decode b_Node_isActive 8 = .ok (.invokevirtual 47, 3) := by decide +kernel
theorem d_Node_isActive_11 : decode b_Node_isActive 11 = .ok (.aload_n 0, 1) := by decide +kernel
theorem d_Node_isActive_12 : decode b_Node_isActive 12 = .ok (.getfield 51, 3) := by decide +kernel
theorem d_Node_isActive_15 : decode b_Node_isActive 15 = .ok (.if_icmp .ge 7, 3) := by decide +kernel
theorem d_Node_isActive_18 : decode b_Node_isActive 18 = .ok (.iconst 1, 1) := by decide +kernel
theorem d_Node_isActive_19 : decode b_Node_isActive 19 = .ok (.goto 4, 3) := by decide +kernel
theorem d_Node_isActive_22 : decode b_Node_isActive 22 = .ok (.iconst 0, 1) := by decide +kernel
theorem d_Node_isActive_23 : decode b_Node_isActive 23 = .ok (.ireturn, 1) := by decide +kernel
def B_Node_isActive_22 (R : Nat → Nat → Nat) (I : St) : Option Int32 := some (0 : Int32)
set_option maxHeartbeats 4000000 in
set_option maxRecDepth 100000 in
theorem b_Node_isActive_22 {p : Program} {l : Launch} {e : Env} {s : State} {m : MethodId} {args : Array Value} {below : List Frame} {meth : Method} {c : Code} {g : Sg} {R : Nat → Nat → Nat} {I : St} {v : Int32} (cx : Cx p s m args meth c g R R_Node b_Node_isActive 1 (some .boolean)) : ∀ (H : Heap) (locs : List Loc) (ls : Array Slot), B_Node_isActive_22 R I = some v → wW g R I H → va_S (· ∈ g.L) s.heap H locs → lv_has ls 1 [] → W p l e { frames := 1, cells := 0, slots := 0, locals := 20 } s m args below meth c H locs 0 0 (MQ below (Qi g R v I) args s 0 0 (· ∈ g.L)) (F0 m 22 ls []) := by
  have ⟨hx, hb, hml, hr, hlk, hown, hall, hT, hK⟩ := cx
  intro H locs ls h hP hS hl
  unfold B_Node_isActive_22 at h
  refine lv_iconst (v := 0) hx hb d_Node_isActive_22 (by decide) ?_
  obtain rfl := Option.some.inj h
  exact gg_zret hx hb hr hlk rfl hK hP hS d_Node_isActive_23
def F_Node_isActive (R : Nat → Nat → Nat) (a0 : Nat) (I : St) : Option Int32 := (if (I a0 4) = 0 then B_Node_isActive_22 R I else (ob (F_Node_latest R a0 I) (fun v8 => (if (I a0 7) ≤ v8 then B_Node_isActive_22 R I else some (1 : Int32)))))
set_option maxHeartbeats 4000000 in
set_option maxRecDepth 100000 in
theorem c_Node_isActive (l : Launch) {g : Sg} {R : Nat → Nat → Nat} (hT : Ty g R) {a0 : Nat} (o0 : okA g 2 0 a0) {I : St} {v : Int32} (h : F_Node_isActive R a0 I = some v) : Cti l g R y_Node_isActive w_Node_isActive 1 20 [.ref a0] I v I := by
  unfold Cti
  refine Met.ofW (cc := b_Node_isActive) (maxL := 1) (ret := (some .boolean)) (by decide) rfl ?_
  intro p e s m args below meth c s₁ B hml hv
  obtain ⟨rfl, hP, hK⟩ := hv
  have hts := atoms_spec (ws := w_Node_isActive) B.pre
  have hall : ∀ w ∈ w_all, w.before _ s = true := fun w hw => hts w (List.mem_cons_of_mem _ hw)
  have hown : s.vm.findClass R_Node = some m.cls := findClass_of_methodNamed B.named
  have hx := B.exec
  have hb := B.bytes
  have hr := B.returns
  have hlk := B.notSynchronized
  have cx : Cx p s m _ meth c g R R_Node b_Node_isActive 1 (some .boolean) := ⟨hx, hb, hml, hr, hlk, hown, hall, hT, hK⟩
  have hl := lv_entry ([.ref a0]) (n := 1) (Nat.le_of_ble_eq_true rfl)
  rw [lg_entry_eq]
  generalize (lg_sl ([.ref a0]) ++ List.replicate (1 - (lg_sl ([.ref a0])).length) Slot.unset).toArray = ls at hl ⊢
  have hl : lv_has ls 1 [(0, .ref a0)] := hl
  have hS : va_S (· ∈ g.L) s.heap s.heap [] := va_S.rf
  unfold F_Node_isActive at h
  refine lv_aload_n hx hb d_Node_isActive_0 rfl (lv_at hl 0 rfl) ?_
  refine gg_get (C := R_Node) (T := F_Node) (N := 10) (ci := 2) hx hb hall i_Node hown hK hP o0.1 (wE_2 o0.2) rfl 4 (by decide) (hall _ m_51) (fun _ h9 => h9) rfl d_Node_isActive_1 ?_
  refine lv_if_eq hx hb d_Node_isActive_4 rfl (fun hc => ?_) (fun hc => ?_)
  · replace h := i_pos hc h
    exact b_Node_isActive_22 cx _ _ _ h hP hS (lv_sub hl [] rfl)
  · replace h := i_neg hc h
    refine lv_aload_n hx hb d_Node_isActive_7 rfl (lv_at hl 0 rfl) ?_
    obtain ⟨v8, e8, h⟩ := ob_el h
    refine gg_Vi (As := []) (rest := []) (ci := 2) (C := R_Node) (T := F_Node) (N := 10) ⟨hx, hb, hml, hown, hall⟩ (c_Node_latest l hT o0 e8) (cwV 0 hall (gV m_54 m_55 m_56 m_48 m_53) rfl rfl rfl (by decide +kernel) ⟨Nat.le_of_ble_eq_true rfl, Nat.le_of_ble_eq_true rfl⟩) hK hP hS o0.1 (wE_2 o0.2) rfl rfl hl.1 rfl (Nat.le_of_ble_eq_true rfl) d_Node_isActive_8 (fun H locs hP hS => ?_)
    refine lv_aload_n hx hb d_Node_isActive_11 rfl (lv_at hl 0 rfl) ?_
    refine gg_get (C := R_Node) (T := F_Node) (N := 10) (ci := 2) hx hb hall i_Node hown hK hP o0.1 (wE_2 o0.2) rfl 7 (by decide) (hall _ m_85) (fun _ h9 => h9) rfl d_Node_isActive_12 ?_
    refine lv_icmp_ge hx hb d_Node_isActive_15 rfl (fun hc => ?_) (fun hc => ?_)
    · replace h := i_pos hc h
      exact b_Node_isActive_22 cx _ _ _ h hP hS (lv_sub hl [] rfl)
    · replace h := i_neg hc h
      refine lv_iconst (v := 1) hx hb d_Node_isActive_18 (by decide) ?_
      refine lv_goto hx hb d_Node_isActive_19 rfl ?_
      obtain rfl := Option.some.inj h
      exact gg_zret hx hb hr hlk rfl hK hP hS d_Node_isActive_23
abbrev b_Store_beat : ByteArray := prog_1_method_7_code
def y_Store_beat : MethodName := ⟨"StampedStore", "beat", "(I)I"⟩
def w_Store_beat : List Cond := .code y_Store_beat b_Store_beat 3 (some .int) :: w_all
theorem d_Store_beat_0 : decode b_Store_beat 0 = .ok (.iload_n 1, 1) := by decide +kernel
theorem d_Store_beat_1 : decode b_Store_beat 1 = .ok (.invokestatic 38, 3) := by decide +kernel
theorem d_Store_beat_4 : decode b_Store_beat 4 = .ok (.ifCond .eq 27, 3) := by decide +kernel
theorem d_Store_beat_7 : decode b_Store_beat 7 = .ok (.aload_n 0, 1) := by decide +kernel
theorem d_Store_beat_8 : decode b_Store_beat 8 = .ok (.getfield 11, 3) := by decide +kernel
theorem d_Store_beat_11 : decode b_Store_beat 11 = .ok (.iload_n 1, 1) := by decide +kernel
theorem d_Store_beat_12 : decode b_Store_beat 12 = .ok (.aaload, 1) := by decide +kernel
theorem d_Store_beat_13 : decode b_Store_beat 13 = .ok (.getfield 48, 3) := by decide +kernel
theorem d_Store_beat_16 : decode b_Store_beat 16 = .ok (.ifCond .eq 15, 3) := by decide +kernel
theorem d_Store_beat_19 : decode b_Store_beat 19 = .ok (.aload_n 0, 1) := by decide +kernel
theorem d_Store_beat_20 : decode b_Store_beat 20 = .ok (.getfield 11, 3) := by decide +kernel
theorem d_Store_beat_23 : decode b_Store_beat 23 = .ok (.iload_n 1, 1) := by decide +kernel
theorem d_Store_beat_24 : decode b_Store_beat 24 = .ok (.aaload, 1) := by decide +kernel
theorem d_Store_beat_25 : decode b_Store_beat 25 = .ok (.getfield 52, 3) := by decide +kernel
theorem d_Store_beat_28 : decode b_Store_beat 28 = .ok (.ifCond .ne 5, 3) := by decide +kernel
theorem d_Store_beat_31 : decode b_Store_beat 31 = .ok (.iconst (-1), 1) := by decide +kernel
theorem d_Store_beat_32 : decode b_Store_beat 32 = .ok (.ireturn, 1) := by decide +kernel
theorem d_Store_beat_33 : decode b_Store_beat 33 = .ok (.aload_n 0, 1) := by decide +kernel
theorem d_Store_beat_34 : decode b_Store_beat 34 = .ok (.getfield 11, 3) := by decide +kernel
theorem d_Store_beat_37 : decode b_Store_beat 37 = .ok (.iload_n 1, 1) := by decide +kernel
theorem d_Store_beat_38 : decode b_Store_beat 38 = .ok (.aaload, 1) := by decide +kernel
theorem d_Store_beat_39 : decode b_Store_beat 39 = .ok (.astore_n 2, 1) := by decide +kernel
theorem d_Store_beat_40 : decode b_Store_beat 40 = .ok (.aload_n 0, 1) := by decide +kernel
theorem d_Store_beat_41 : decode b_Store_beat 41 = .ok (.aload_n 2, 1) := by decide +kernel
theorem d_Store_beat_42 : decode b_Store_beat 42 = .ok (.invokevirtual 76, 3) := by decide +kernel
theorem d_Store_beat_45 : decode b_Store_beat 45 = .ok (.iconst 2, 1) := by decide +kernel
theorem d_Store_beat_46 : decode b_Store_beat 46 = .ok (.if_icmp .lt 21, 3) := by decide +kernel
theorem d_Store_beat_49 : decode b_Store_beat 49 = .ok (.aload_n 2, 1) := by decide +kernel
theorem d_Store_beat_50 : decode b_Store_beat 50 = .ok (.aload_n 2, 1) := by decide +kernel
theorem d_Store_beat_51 : decode b_Store_beat 51 = .ok (.getfield 69, 3) := by decide +kernel
theorem d_Store_beat_54 : decode b_Store_beat 54 = .ok (.aload_n 2, 1) := by decide +kernel
theorem d_Store_beat_55 : decode b_Store_beat 55 = .ok (.invokevirtual 66, 3) := by decide +kernel
theorem d_Store_beat_58 : decode b_Store_beat 58 = .ok (.bipush 40, 2) := by decide +kernel
theorem d_Store_beat_60 : decode b_Store_beat 60 = .ok (.iadd, 1) := by decide +kernel
theorem d_Store_beat_61 : decode b_Store_beat 61 = .ok (.invokestatic 80, 3) := by decide +kernel
theorem d_Store_beat_64 : decode b_Store_beat 64 = .ok (.putfield 69, 3) := by decide +kernel
theorem d_Store_beat_67 : decode b_Store_beat 67 = .ok (.aload_n 2, 1) := by decide +kernel
theorem d_Store_beat_68 : decode b_Store_beat 68 = .ok (.invokevirtual 86, 3) := by decide +kernel
theorem d_Store_beat_71 : decode b_Store_beat 71 = .ok (.ifCond .ne 6, 3) := by decide +kernel
theorem d_Store_beat_74 : decode b_Store_beat 74 = .ok (.bipush (-7), 2) := by decide +kernel
theorem d_Store_beat_76 : decode b_Store_beat 76 = .ok (.ireturn, 1) := by decide +kernel
theorem d_Store_beat_77 : decode b_Store_beat 77 = .ok (.aload_n 2, 1) := by decide +kernel
theorem d_Store_beat_78 : decode b_Store_beat 78 = .ok (.iconst 0, 1) := by decide +kernel
theorem d_Store_beat_79 : decode b_Store_beat 79 = .ok (.iconst (-1), 1) := by decide +kernel
theorem d_Store_beat_80 : decode b_Store_beat 80 = .ok (.iconst (-1), 1) := by decide +kernel
theorem d_Store_beat_81 : decode b_Store_beat 81 = .ok (.iconst 0, 1) := by decide +kernel
theorem d_Store_beat_82 : decode b_Store_beat 82 = .ok (.invokevirtual 72, 3) := by decide +kernel
theorem d_Store_beat_85 : decode b_Store_beat 85 = .ok (.ireturn, 1) := by decide +kernel
def B_Store_beat_31 (R : Nat → Nat → Nat) (I : St) : Option (Int32 × St) := some ((-1 : Int32), I)
set_option maxHeartbeats 4000000 in
set_option maxRecDepth 100000 in
theorem b_Store_beat_31 {p : Program} {l : Launch} {e : Env} {s : State} {m : MethodId} {args : Array Value} {below : List Frame} {meth : Method} {c : Code} {g : Sg} {R : Nat → Nat → Nat} {J : St} {v : Int32} (cx : Cx p s m args meth c g R R_Store b_Store_beat 3 (some .int)) : ∀ (I : St) (H : Heap) (locs : List Loc) (ls : Array Slot), B_Store_beat_31 R I = some (v, J) → wW g R I H → va_S (· ∈ g.L) s.heap H locs → lv_has ls 3 [] → W p l e { frames := 4, cells := 0, slots := 0, locals := 90 } s m args below meth c H locs 0 0 (MQ below (Qi g R v J) args s 0 0 (· ∈ g.L)) (F0 m 31 ls []) := by
  have ⟨hx, hb, hml, hr, hlk, hown, hall, hT, hK⟩ := cx
  intro I H locs ls h hP hS hl
  unfold B_Store_beat_31 at h
  refine lv_iconst (v := (-1)) hx hb d_Store_beat_31 (by decide) ?_
  obtain ⟨rfl, rfl⟩ := rt_el h
  exact gg_iret hx hb hr hlk hK hP hS d_Store_beat_32
def B_Store_beat_67 (R : Nat → Nat → Nat) (a2 : Nat) (I : St) : Option (Int32 × St) := (ob (F_Node_isActive R a2 I) (fun v68 => (if v68 = 0 then some ((-7 : Int32), I) else (ob2 (F_Node_put R a2 (0 : Int32) (-1 : Int32) (-1 : Int32) (0 : Int32) I) (fun v82 I82 => some (v82, I82))))))
set_option maxHeartbeats 4000000 in
set_option maxRecDepth 100000 in
theorem b_Store_beat_67 {p : Program} {l : Launch} {e : Env} {s : State} {m : MethodId} {args : Array Value} {below : List Frame} {meth : Method} {c : Code} {g : Sg} {R : Nat → Nat → Nat} {J : St} {v : Int32} (cx : Cx p s m args meth c g R R_Store b_Store_beat 3 (some .int)) : ∀ (a2 : Nat) (I : St) (H : Heap) (locs : List Loc) (ls : Array Slot), okA g 2 0 a2 → B_Store_beat_67 R a2 I = some (v, J) → wW g R I H → va_S (· ∈ g.L) s.heap H locs → lv_has ls 3 [(2, .ref a2)] → W p l e { frames := 4, cells := 0, slots := 0, locals := 90 } s m args below meth c H locs 0 0 (MQ below (Qi g R v J) args s 0 0 (· ∈ g.L)) (F0 m 67 ls []) := by
  have ⟨hx, hb, hml, hr, hlk, hown, hall, hT, hK⟩ := cx
  intro a2 I H locs ls o2 h hP hS hl
  unfold B_Store_beat_67 at h
  refine lv_aload_n hx hb d_Store_beat_67 rfl (lv_at hl 0 rfl) ?_
  obtain ⟨v68, e68, h⟩ := ob_el h
  refine gg_Vi (As := []) (rest := []) (ci := 2) (C := R_Node) (T := F_Node) (N := 10) ⟨hx, hb, hml, hown, hall⟩ (c_Node_isActive l hT o2 e68) (cwV 0 hall (gV m_116 m_117 m_118 m_48 m_115) rfl rfl rfl (by decide +kernel) ⟨Nat.le_of_ble_eq_true rfl, Nat.le_of_ble_eq_true rfl⟩) hK hP hS o2.1 (wE_2 o2.2) rfl rfl hl.1 rfl (Nat.le_of_ble_eq_true rfl) d_Store_beat_68 (fun H locs hP hS => ?_)
  refine lv_if_ne hx hb d_Store_beat_71 rfl (fun hc => ?_) (fun hc => ?_)
  · replace h := i_neg hc h
    refine lv_aload_n hx hb d_Store_beat_77 rfl (lv_at hl 0 rfl) ?_
    refine lv_iconst (v := 0) hx hb d_Store_beat_78 (by decide) ?_
    refine lv_iconst (v := (-1)) hx hb d_Store_beat_79 (by decide) ?_
    refine lv_iconst (v := (-1)) hx hb d_Store_beat_80 (by decide) ?_
    refine lv_iconst (v := 0) hx hb d_Store_beat_81 (by decide) ?_
    obtain ⟨v82, I82, e82, h⟩ := ob2_el h
    refine gg_Vi (As := [.int (0 : Int32), .int (-1 : Int32), .int (-1 : Int32), .int (0 : Int32)]) (rest := []) (ci := 2) (C := R_Node) (T := F_Node) (N := 10) ⟨hx, hb, hml, hown, hall⟩ (c_Node_put l hT o2 e82) (cwV 4 hall (gV m_110 m_111 m_112 m_48 m_100) rfl rfl rfl (by decide +kernel) ⟨Nat.le_of_ble_eq_true rfl, Nat.le_of_ble_eq_true rfl⟩) hK hP hS o2.1 (wE_2 o2.2) rfl rfl hl.1 rfl (Nat.le_of_ble_eq_true rfl) d_Store_beat_82 (fun H locs hP hS => ?_)
    obtain ⟨rfl, rfl⟩ := rt_el h
    exact gg_iret hx hb hr hlk hK hP hS d_Store_beat_85
  · replace h := i_pos hc h
    refine lv_bipush (v := (-7)) hx hb d_Store_beat_74 (by decide) ?_
    obtain ⟨rfl, rfl⟩ := rt_el h
    exact gg_iret hx hb hr hlk hK hP hS d_Store_beat_76
def F_Store_beat (R : Nat → Nat → Nat) (a0 : Nat) (x1 : Int32) (I : St) : Option (Int32 × St) := (ob (F_Store_isNode R x1 I) (fun v1 => (if v1 = 0 then B_Store_beat_31 R I else (chk x1 6 ((if (I (R (R a0 1) x1.toNatClampNeg) 3) = 0 then B_Store_beat_31 R I else (chk x1 6 ((if (I (R (R a0 1) x1.toNatClampNeg) 4) = 0 then B_Store_beat_31 R I else (chk x1 6 ((ob2 (F_Store_renewPromises R a0 (R (R a0 1) x1.toNatClampNeg) I) (fun v42 I42 => (if v42 < (2 : Int32) then B_Store_beat_67 R (R (R a0 1) x1.toNatClampNeg) I42 else (ob (F_Node_earliest R (R (R a0 1) x1.toNatClampNeg) I42) (fun v55 => (ap (up2 I42 (R (R a0 1) x1.toNatClampNeg) 7 (imax (I42 (R (R a0 1) x1.toNatClampNeg) 7) (v55 + (40 : Int32)))) (fun I64 => B_Store_beat_67 R (R (R a0 1) x1.toNatClampNeg) I64))))))))))))))))))
set_option maxHeartbeats 4000000 in
set_option maxRecDepth 100000 in
theorem c_Store_beat (l : Launch) {g : Sg} {R : Nat → Nat → Nat} (hT : Ty g R) {a0 : Nat} (o0 : okA g 4 0 a0) {x1 : Int32} {I : St} {J : St} {v : Int32} (h : F_Store_beat R a0 x1 I = some (v, J)) : Cti l g R y_Store_beat w_Store_beat 4 90 [.ref a0, .int x1] I v J := by
  unfold Cti
  refine Met.ofW (cc := b_Store_beat) (maxL := 3) (ret := (some .int)) (by decide) rfl ?_
  intro p e s m args below meth c s₁ B hml hv
  obtain ⟨rfl, hP, hK⟩ := hv
  have hts := atoms_spec (ws := w_Store_beat) B.pre
  have hall : ∀ w ∈ w_all, w.before _ s = true := fun w hw => hts w (List.mem_cons_of_mem _ hw)
  have hown : s.vm.findClass R_Store = some m.cls := findClass_of_methodNamed B.named
  have hx := B.exec
  have hb := B.bytes
  have hr := B.returns
  have hlk := B.notSynchronized
  have cx : Cx p s m _ meth c g R R_Store b_Store_beat 3 (some .int) := ⟨hx, hb, hml, hr, hlk, hown, hall, hT, hK⟩
  have hl := lv_entry ([.ref a0, .int x1]) (n := 3) (Nat.le_of_ble_eq_true rfl)
  rw [lg_entry_eq]
  generalize (lg_sl ([.ref a0, .int x1]) ++ List.replicate (3 - (lg_sl ([.ref a0, .int x1])).length) Slot.unset).toArray = ls at hl ⊢
  have hl : lv_has ls 3 [(0, .ref a0), (1, .int x1)] := hl
  have hS : va_S (· ∈ g.L) s.heap s.heap [] := va_S.rf
  unfold F_Store_beat at h
  refine lv_iload_n hx hb d_Store_beat_0 rfl (lv_at hl 1 rfl) ?_
  obtain ⟨v1, e1, h⟩ := ob_el h
  refine gg_Si (As := [.int x1]) (rest := []) ⟨hx, hb, hml, hown, hall⟩ (c_Store_isNode l hT e1) (cwS 1 hall (gS m_4 m_5 m_6 m_3) rfl rfl rfl (by decide +kernel) ⟨Nat.le_of_ble_eq_true rfl, Nat.le_of_ble_eq_true rfl⟩) hK hP hS rfl hl.1 rfl (Nat.le_of_ble_eq_true rfl) d_Store_beat_1 (fun H locs hP hS => ?_)
  refine lv_if_eq hx hb d_Store_beat_4 rfl (fun hc => ?_) (fun hc => ?_)
  · replace h := i_pos hc h
    exact b_Store_beat_31 cx _ _ _ _ h hP hS (lv_sub hl [] rfl)
  · replace h := i_neg hc h
    refine lv_aload_n hx hb d_Store_beat_7 rfl (lv_at hl 0 rfl) ?_
    refine gg_get (C := R_Store) (T := F_Store) (N := 4) (ci := 4) hx hb hall i_Store hown hK hP o0.1 (wE_4 o0.2) rfl 1 (by decide) (hall _ m_8) (fun _ h9 => h9) rfl d_Store_beat_8 ?_
    have o_8 : okA g 8 6 (R a0 1) := ty_Store_1 hT o0
    refine lv_iload_n hx hb d_Store_beat_11 rfl (lv_at hl 1 rfl) ?_
    obtain ⟨hi12, h⟩ := chk_el h
    refine gg_nald hx hb hK hP o_8 hi12 d_Store_beat_12 ?_
    have o_12 : okA g 2 0 (R (R a0 1) x1.toNatClampNeg) := ty_8 hT o_8 _
    refine gg_get (C := R_Node) (T := F_Node) (N := 10) (ci := 2) hx hb hall i_Node hown hK hP o_12.1 (wE_2 o_12.2) rfl 3 (by decide) (hall _ m_11) (fun _ h9 => h9) rfl d_Store_beat_13 ?_
    refine lv_if_eq hx hb d_Store_beat_16 rfl (fun hc => ?_) (fun hc => ?_)
    · replace h := i_pos hc h
      exact b_Store_beat_31 cx _ _ _ _ h hP hS (lv_sub hl [] rfl)
    · replace h := i_neg hc h
      refine lv_aload_n hx hb d_Store_beat_19 rfl (lv_at hl 0 rfl) ?_
      refine gg_get (C := R_Store) (T := F_Store) (N := 4) (ci := 4) hx hb hall i_Store hown hK hP o0.1 (wE_4 o0.2) rfl 1 (by decide) (hall _ m_8) (fun _ h9 => h9) rfl d_Store_beat_20 ?_
      have o_20 : okA g 8 6 (R a0 1) := ty_Store_1 hT o0
      refine lv_iload_n hx hb d_Store_beat_23 rfl (lv_at hl 1 rfl) ?_
      obtain ⟨hi24, h⟩ := chk_el h
      refine gg_nald hx hb hK hP o_20 hi24 d_Store_beat_24 ?_
      have o_24 : okA g 2 0 (R (R a0 1) x1.toNatClampNeg) := ty_8 hT o_20 _
      refine gg_get (C := R_Node) (T := F_Node) (N := 10) (ci := 2) hx hb hall i_Node hown hK hP o_24.1 (wE_2 o_24.2) rfl 4 (by decide) (hall _ m_12) (fun _ h9 => h9) rfl d_Store_beat_25 ?_
      refine lv_if_ne hx hb d_Store_beat_28 rfl (fun hc => ?_) (fun hc => ?_)
      · replace h := i_neg hc h
        refine lv_aload_n hx hb d_Store_beat_33 rfl (lv_at hl 0 rfl) ?_
        refine gg_get (C := R_Store) (T := F_Store) (N := 4) (ci := 4) hx hb hall i_Store hown hK hP o0.1 (wE_4 o0.2) rfl 1 (by decide) (hall _ m_8) (fun _ h9 => h9) rfl d_Store_beat_34 ?_
        have o_34 : okA g 8 6 (R a0 1) := ty_Store_1 hT o0
        refine lv_iload_n hx hb d_Store_beat_37 rfl (lv_at hl 1 rfl) ?_
        obtain ⟨hi38, h⟩ := chk_el h
        refine gg_nald hx hb hK hP o_34 hi38 d_Store_beat_38 ?_
        have o_38 : okA g 2 0 (R (R a0 1) x1.toNatClampNeg) := ty_8 hT o_34 _
        refine lv_astore_n (lv' := [(2, .ref (R (R a0 1) x1.toNatClampNeg)), (0, .ref a0), (1, .int x1)]) hx hb d_Store_beat_39 rfl hl (Nat.le_of_ble_eq_true rfl) rfl (fun ls hl => ?_)
        refine lv_aload_n hx hb d_Store_beat_40 rfl (lv_at hl 1 rfl) ?_
        refine lv_aload_n hx hb d_Store_beat_41 rfl (lv_at hl 0 rfl) ?_
        obtain ⟨v42, I42, e42, h⟩ := ob2_el h
        refine gg_Vi (As := [.ref (R (R a0 1) x1.toNatClampNeg)]) (rest := []) (ci := 4) (C := R_Store) (T := F_Store) (N := 4) ⟨hx, hb, hml, hown, hall⟩ (c_Store_renewPromises l hT o0 o_38 e42) (cwV 1 hall (gV m_119 m_120 m_121 m_6 m_114) rfl rfl rfl (by decide +kernel) ⟨Nat.le_of_ble_eq_true rfl, Nat.le_of_ble_eq_true rfl⟩) hK hP hS o0.1 (wE_4 o0.2) rfl rfl hl.1 rfl (Nat.le_of_ble_eq_true rfl) d_Store_beat_42 (fun H locs hP hS => ?_)
        refine lv_iconst (v := 2) hx hb d_Store_beat_45 (by decide) ?_
        refine lv_icmp_lt hx hb d_Store_beat_46 rfl (fun hc => ?_) (fun hc => ?_)
        · replace h := i_pos hc h
          exact b_Store_beat_67 cx _ _ _ _ _ o_38 h hP hS (lv_sub hl [0] rfl)
        · replace h := i_neg hc h
          refine lv_aload_n hx hb d_Store_beat_49 rfl (lv_at hl 0 rfl) ?_
          refine lv_aload_n hx hb d_Store_beat_50 rfl (lv_at hl 0 rfl) ?_
          refine gg_get (C := R_Node) (T := F_Node) (N := 10) (ci := 2) hx hb hall i_Node hown hK hP o_38.1 (wE_2 o_38.2) rfl 7 (by decide) (hall _ m_109) (fun _ h9 => h9) rfl d_Store_beat_51 ?_
          refine lv_aload_n hx hb d_Store_beat_54 rfl (lv_at hl 0 rfl) ?_
          obtain ⟨v55, e55, h⟩ := ob_el h
          refine gg_Vi (As := []) (rest := [.int (I42 (R (R a0 1) x1.toNatClampNeg) 7), .ref (R (R a0 1) x1.toNatClampNeg)]) (ci := 2) (C := R_Node) (T := F_Node) (N := 10) ⟨hx, hb, hml, hown, hall⟩ (c_Node_earliest l hT o_38 e55) (cwV 0 hall (gV m_108 m_46 m_47 m_48 m_31) rfl rfl rfl (by decide +kernel) ⟨Nat.le_of_ble_eq_true rfl, Nat.le_of_ble_eq_true rfl⟩) hK hP hS o_38.1 (wE_2 o_38.2) rfl rfl hl.1 rfl (Nat.le_of_ble_eq_true rfl) d_Store_beat_55 (fun H locs hP hS => ?_)
          refine lv_bipush (v := 40) hx hb d_Store_beat_58 (by decide) ?_
          refine lv_iadd hx hb d_Store_beat_60 ?_
          refine gg_max hx hb hml hl.1 hown (hall _ m_122) (hall _ m_58) (hall _ m_18) (hall _ m_59) (Nat.le_of_ble_eq_true rfl) (Nat.le_of_ble_eq_true rfl) d_Store_beat_61 ?_
          refine gg_put (C := R_Node) (T := F_Node) (N := 10) (ci := 2) (ty := .int) hx hb hall i_Node t_Node t_Node_ok n_Node hown hT.1 hK hP hS o_38.1 (wE_2 o_38.2) rfl 7 (by decide) (hall _ m_109) (fun _ h9 => h9) rfl (by decide +kernel) rfl rfl (Nat.le_of_ble_eq_true rfl) (ws_Node_7 o_38.2) d_Store_beat_64 (fun I64 H locs e64 hP hS => ?_)
          replace h := ap_el e64 h
          exact b_Store_beat_67 cx _ _ _ _ _ o_38 h hP hS (lv_sub hl [0] rfl)
      · replace h := i_pos hc h
        exact b_Store_beat_31 cx _ _ _ _ h hP hS (lv_sub hl [] rfl)
abbrev b_Log_epochAt : ByteArray := prog_3_method_4_code
def y_Log_epochAt : MethodName := ⟨"StampedStore$Log", "epochAt", "(I)I"⟩
def w_Log_epochAt : List Cond := .code y_Log_epochAt b_Log_epochAt 2 (some .int) :: w_all
theorem d_Log_epochAt_0 : decode b_Log_epochAt 0 = .ok (.iload_n 1, 1) := by decide +kernel
theorem d_Log_epochAt_1 : decode b_Log_epochAt 1 = .ok (.ifCond .lt 20, 3) := by decide +kernel
theorem d_Log_epochAt_4 : decode b_Log_epochAt 4 = .ok (.iload_n 1, 1) := by decide +kernel
theorem d_Log_epochAt_5 : decode b_Log_epochAt 5 = .ok (.aload_n 0, 1) := by decide +kernel
theorem d_Log_epochAt_6 : decode b_Log_epochAt 6 = .ok (.getfield 27, 3) := by decide +kernel
theorem d_Log_epochAt_9 : decode b_Log_epochAt 9 = .ok (.if_icmp .ge 12, 3) := by decide +kernel
theorem d_Log_epochAt_12 : decode b_Log_epochAt 12 = .ok (.aload_n 0, 1) := by decide +kernel
theorem d_Log_epochAt_13 : decode b_Log_epochAt 13 = .ok (.getfield 9, 3) := by decide +kernel
theorem d_Log_epochAt_16 : decode b_Log_epochAt 16 = .ok (.iload_n 1, 1) := by decide +kernel
theorem d_Log_epochAt_17 : decode b_Log_epochAt 17 = .ok (.iaload, 1) := by decide +kernel
theorem d_Log_epochAt_18 : decode b_Log_epochAt 18 = .ok (.goto 4, 3) := by decide +kernel
theorem d_Log_epochAt_21 : decode b_Log_epochAt 21 = .ok (.iconst (-1), 1) := by decide +kernel
theorem d_Log_epochAt_22 : decode b_Log_epochAt 22 = .ok (.ireturn, 1) := by decide +kernel
def B_Log_epochAt_21 (R : Nat → Nat → Nat) (I : St) : Option Int32 := some (-1 : Int32)
set_option maxHeartbeats 4000000 in
set_option maxRecDepth 100000 in
theorem b_Log_epochAt_21 {p : Program} {l : Launch} {e : Env} {s : State} {m : MethodId} {args : Array Value} {below : List Frame} {meth : Method} {c : Code} {g : Sg} {R : Nat → Nat → Nat} {I : St} {v : Int32} (cx : Cx p s m args meth c g R R_Log b_Log_epochAt 2 (some .int)) : ∀ (H : Heap) (locs : List Loc) (ls : Array Slot), B_Log_epochAt_21 R I = some v → wW g R I H → va_S (· ∈ g.L) s.heap H locs → lv_has ls 2 [] → W p l e { frames := 0, cells := 0, slots := 0, locals := 0 } s m args below meth c H locs 0 0 (MQ below (Qi g R v I) args s 0 0 (· ∈ g.L)) (F0 m 21 ls []) := by
  have ⟨hx, hb, hml, hr, hlk, hown, hall, hT, hK⟩ := cx
  intro H locs ls h hP hS hl
  unfold B_Log_epochAt_21 at h
  refine lv_iconst (v := (-1)) hx hb d_Log_epochAt_21 (by decide) ?_
  obtain rfl := Option.some.inj h
  exact gg_iret hx hb hr hlk hK hP hS d_Log_epochAt_22
def F_Log_epochAt (R : Nat → Nat → Nat) (a0 : Nat) (x1 : Int32) (I : St) : Option Int32 := (if x1 < 0 then B_Log_epochAt_21 R I else (if (I a0 5) ≤ x1 then B_Log_epochAt_21 R I else (chk x1 60 (some (I (R a0 0) x1.toNatClampNeg)))))
set_option maxHeartbeats 4000000 in
set_option maxRecDepth 100000 in
theorem c_Log_epochAt (l : Launch) {g : Sg} {R : Nat → Nat → Nat} (hT : Ty g R) {a0 : Nat} (o0 : okA g 1 0 a0) {x1 : Int32} {I : St} {v : Int32} (h : F_Log_epochAt R a0 x1 I = some v) : Cti l g R y_Log_epochAt w_Log_epochAt 0 0 [.ref a0, .int x1] I v I := by
  unfold Cti
  refine Met.ofW (cc := b_Log_epochAt) (maxL := 2) (ret := (some .int)) (by decide) rfl ?_
  intro p e s m args below meth c s₁ B hml hv
  obtain ⟨rfl, hP, hK⟩ := hv
  have hts := atoms_spec (ws := w_Log_epochAt) B.pre
  have hall : ∀ w ∈ w_all, w.before _ s = true := fun w hw => hts w (List.mem_cons_of_mem _ hw)
  have hown : s.vm.findClass R_Log = some m.cls := findClass_of_methodNamed B.named
  have hx := B.exec
  have hb := B.bytes
  have hr := B.returns
  have hlk := B.notSynchronized
  have cx : Cx p s m _ meth c g R R_Log b_Log_epochAt 2 (some .int) := ⟨hx, hb, hml, hr, hlk, hown, hall, hT, hK⟩
  have hl := lv_entry ([.ref a0, .int x1]) (n := 2) (Nat.le_of_ble_eq_true rfl)
  rw [lg_entry_eq]
  generalize (lg_sl ([.ref a0, .int x1]) ++ List.replicate (2 - (lg_sl ([.ref a0, .int x1])).length) Slot.unset).toArray = ls at hl ⊢
  have hl : lv_has ls 2 [(0, .ref a0), (1, .int x1)] := hl
  have hS : va_S (· ∈ g.L) s.heap s.heap [] := va_S.rf
  unfold F_Log_epochAt at h
  refine lv_iload_n hx hb d_Log_epochAt_0 rfl (lv_at hl 1 rfl) ?_
  refine lv_if_lt hx hb d_Log_epochAt_1 rfl (fun hc => ?_) (fun hc => ?_)
  · replace h := i_pos hc h
    exact b_Log_epochAt_21 cx _ _ _ h hP hS (lv_sub hl [] rfl)
  · replace h := i_neg hc h
    refine lv_iload_n hx hb d_Log_epochAt_4 rfl (lv_at hl 1 rfl) ?_
    refine lv_aload_n hx hb d_Log_epochAt_5 rfl (lv_at hl 0 rfl) ?_
    refine gg_get (C := R_Log) (T := F_Log) (N := 7) (ci := 1) hx hb hall i_Log hown hK hP o0.1 (wE_1 o0.2) rfl 5 (by decide) (hall _ m_32) (fun _ h9 => h9) rfl d_Log_epochAt_6 ?_
    refine lv_icmp_ge hx hb d_Log_epochAt_9 rfl (fun hc => ?_) (fun hc => ?_)
    · replace h := i_pos hc h
      exact b_Log_epochAt_21 cx _ _ _ h hP hS (lv_sub hl [] rfl)
    · replace h := i_neg hc h
      refine lv_aload_n hx hb d_Log_epochAt_12 rfl (lv_at hl 0 rfl) ?_
      refine gg_get (C := R_Log) (T := F_Log) (N := 7) (ci := 1) hx hb hall i_Log hown hK hP o0.1 (wE_1 o0.2) rfl 0 (by decide) (hall _ m_33) (fun _ h9 => h9) rfl d_Log_epochAt_13 ?_
      have o_13 : okA g 6 60 (R a0 0) := ty_Log_0 hT o0
      refine lv_iload_n hx hb d_Log_epochAt_16 rfl (lv_at hl 1 rfl) ?_
      obtain ⟨hi17, h⟩ := chk_el h
      refine gg_iald hx hb hK hP o_13 hi17 d_Log_epochAt_17 ?_
      refine lv_goto hx hb d_Log_epochAt_18 rfl ?_
      obtain rfl := Option.some.inj h
      exact gg_iret hx hb hr hlk hK hP hS d_Log_epochAt_22
abbrev b_Log_sameEntries : ByteArray := prog_3_method_16_code
def y_Log_sameEntries : MethodName := ⟨"StampedStore$Log", "sameEntries", "(LStampedStore$Log;)I"⟩
def w_Log_sameEntries : List Cond := .code y_Log_sameEntries b_Log_sameEntries 3 (some .int) :: w_all
theorem d_Log_sameEntries_0 : decode b_Log_sameEntries 0 = .ok (.iconst 0, 1) := by decide +kernel
theorem d_Log_sameEntries_1 : decode b_Log_sameEntries 1 = .ok (.istore_n 2, 1) := by decide +kernel
theorem d_Log_sameEntries_2 : decode b_Log_sameEntries 2 = .ok (.iload_n 2, 1) := by decide +kernel
theorem d_Log_sameEntries_3 : decode b_Log_sameEntries 3 = .ok (.aload_n 0, 1) := by decide +kernel
theorem d_Log_sameEntries_4 : decode b_Log_sameEntries 4 = .ok (.getfield 27, 3) := by decide +kernel
theorem d_Log_sameEntries_7 : decode b_Log_sameEntries 7 = .ok (.if_icmp .ge 23, 3) := by decide +kernel
theorem d_Log_sameEntries_10 : decode b_Log_sameEntries 10 = .ok (.aload_n 0, 1) := by decide +kernel
theorem d_Log_sameEntries_11 : decode b_Log_sameEntries 11 = .ok (.getfield 9, 3) := by decide +kernel
theorem d_Log_sameEntries_14 : decode b_Log_sameEntries 14 = .ok (.iload_n 2, 1) := by decide +kernel
theorem d_Log_sameEntries_15 : decode b_Log_sameEntries 15 = .ok (.iaload, 1) := by decide +kernel
theorem d_Log_sameEntries_16 : decode b_Log_sameEntries 16 = .ok (.aload_n 1, 1) := by decide +kernel
theorem d_Log_sameEntries_17 : decode b_Log_sameEntries 17 = .ok (.iload_n 2, 1) := by decide +kernel
theorem d_Log_sameEntries_18 : decode b_Log_sameEntries 18 = .ok (.invokevirtual 65, 3) := by decide +kernel
theorem d_Log_sameEntries_21 : decode b_Log_sameEntries 21 = .ok (.if_icmp .ne 9, 3) := by decide +kernel
theorem d_Log_sameEntries_24 : decode b_Log_sameEntries 24 = .ok (.iinc 2 1, 3) := by decide +kernel
theorem d_Log_sameEntries_27 : decode b_Log_sameEntries 27 = .ok (.goto (-25), 3) := by decide +kernel
theorem d_Log_sameEntries_30 : decode b_Log_sameEntries 30 = .ok (.iload_n 2, 1) := by decide +kernel
theorem d_Log_sameEntries_31 : decode b_Log_sameEntries 31 = .ok (.ireturn, 1) := by decide +kernel
def B_Log_sameEntries_30 (R : Nat → Nat → Nat) (I : St) (x2 : Int32) : Option Int32 := some x2
set_option maxHeartbeats 4000000 in
set_option maxRecDepth 100000 in
theorem b_Log_sameEntries_30 {p : Program} {l : Launch} {e : Env} {s : State} {m : MethodId} {args : Array Value} {below : List Frame} {meth : Method} {c : Code} {g : Sg} {R : Nat → Nat → Nat} {I : St} {v : Int32} (cx : Cx p s m args meth c g R R_Log b_Log_sameEntries 3 (some .int)) : ∀ (x2 : Int32) (H : Heap) (locs : List Loc) (ls : Array Slot), B_Log_sameEntries_30 R I x2 = some v → wW g R I H → va_S (· ∈ g.L) s.heap H locs → lv_has ls 3 [(2, .int x2)] → W p l e { frames := 1, cells := 0, slots := 0, locals := 21 } s m args below meth c H locs 0 0 (MQ below (Qi g R v I) args s 0 0 (· ∈ g.L)) (F0 m 30 ls []) := by
  have ⟨hx, hb, hml, hr, hlk, hown, hall, hT, hK⟩ := cx
  intro x2 H locs ls h hP hS hl
  unfold B_Log_sameEntries_30 at h
  refine lv_iload_n hx hb d_Log_sameEntries_30 rfl (lv_at hl 0 rfl) ?_
  obtain rfl := Option.some.inj h
  exact gg_iret hx hb hr hlk hK hP hS d_Log_sameEntries_31
def B_Log_sameEntries_2 (R : Nat → Nat → Nat) (I : St) : Nat → Nat → Nat → Int32 → Option Int32
  | 0, _, _, _ => none
  | f + 1, a0, a1, x2 => (if (I a0 5) ≤ x2 then B_Log_sameEntries_30 R I x2 else (chk x2 60 ((ob (F_Log_epochAt R a1 x2 I) (fun v18 => (if (I (R a0 0) x2.toNatClampNeg) = v18 then B_Log_sameEntries_2 R I f a0 a1 (x2 + 1) else B_Log_sameEntries_30 R I x2))))))
set_option maxHeartbeats 4000000 in
set_option maxRecDepth 100000 in
theorem b_Log_sameEntries_2 {p : Program} {l : Launch} {e : Env} {s : State} {m : MethodId} {args : Array Value} {below : List Frame} {meth : Method} {c : Code} {g : Sg} {R : Nat → Nat → Nat} {I : St} {v : Int32} (cx : Cx p s m args meth c g R R_Log b_Log_sameEntries 3 (some .int)) (f : Nat) : ∀ (a0 : Nat) (a1 : Nat) (x2 : Int32) (H : Heap) (locs : List Loc) (ls : Array Slot), okA g 1 0 a0 → okA g 1 0 a1 → B_Log_sameEntries_2 R I f a0 a1 x2 = some v → wW g R I H → va_S (· ∈ g.L) s.heap H locs → lv_has ls 3 [(0, .ref a0), (1, .ref a1), (2, .int x2)] → W p l e { frames := 1, cells := 0, slots := 0, locals := 21 } s m args below meth c H locs 0 0 (MQ below (Qi g R v I) args s 0 0 (· ∈ g.L)) (F0 m 2 ls []) := by
  have ⟨hx, hb, hml, hr, hlk, hown, hall, hT, hK⟩ := cx
  induction f with
  | zero => intro a0 a1 x2 H locs ls o0 o1 h; unfold B_Log_sameEntries_2 at h; cases h
  | succ f ih =>
    intro a0 a1 x2 H locs ls o0 o1 h hP hS hl
    unfold B_Log_sameEntries_2 at h
    refine lv_iload_n hx hb d_Log_sameEntries_2 rfl (lv_at hl 2 rfl) ?_
    refine lv_aload_n hx hb d_Log_sameEntries_3 rfl (lv_at hl 0 rfl) ?_
    refine gg_get (C := R_Log) (T := F_Log) (N := 7) (ci := 1) hx hb hall i_Log hown hK hP o0.1 (wE_1 o0.2) rfl 5 (by decide) (hall _ m_32) (fun _ h9 => h9) rfl d_Log_sameEntries_4 ?_
    refine lv_icmp_ge hx hb d_Log_sameEntries_7 rfl (fun hc => ?_) (fun hc => ?_)
    · replace h := i_pos hc h
      exact b_Log_sameEntries_30 cx _ _ _ _ h hP hS (lv_sub hl [2] rfl)
    · replace h := i_neg hc h
      refine lv_aload_n hx hb d_Log_sameEntries_10 rfl (lv_at hl 0 rfl) ?_
      refine gg_get (C := R_Log) (T := F_Log) (N := 7) (ci := 1) hx hb hall i_Log hown hK hP o0.1 (wE_1 o0.2) rfl 0 (by decide) (hall _ m_33) (fun _ h9 => h9) rfl d_Log_sameEntries_11 ?_
      have o_11 : okA g 6 60 (R a0 0) := ty_Log_0 hT o0
      refine lv_iload_n hx hb d_Log_sameEntries_14 rfl (lv_at hl 2 rfl) ?_
      obtain ⟨hi15, h⟩ := chk_el h
      refine gg_iald hx hb hK hP o_11 hi15 d_Log_sameEntries_15 ?_
      refine lv_aload_n hx hb d_Log_sameEntries_16 rfl (lv_at hl 1 rfl) ?_
      refine lv_iload_n hx hb d_Log_sameEntries_17 rfl (lv_at hl 2 rfl) ?_
      obtain ⟨v18, e18, h⟩ := ob_el h
      refine gg_Vi (As := [.int x2]) (rest := [.int (I (R a0 0) x2.toNatClampNeg)]) (ci := 1) (C := R_Log) (T := F_Log) (N := 7) ⟨hx, hb, hml, hown, hall⟩ (c_Log_epochAt l hT o1 e18) (cwV 1 hall (gV m_125 m_126 m_127 m_38 m_124) rfl rfl rfl (by decide +kernel) ⟨Nat.le_of_ble_eq_true rfl, Nat.le_of_ble_eq_true rfl⟩) hK hP hS o1.1 (wE_1 o1.2) rfl rfl hl.1 rfl (Nat.le_of_ble_eq_true rfl) d_Log_sameEntries_18 (fun H locs hP hS => ?_)
      refine lv_icmp_ne hx hb d_Log_sameEntries_21 rfl (fun hc => ?_) (fun hc => ?_)
      · replace h := i_neg hc h
        exact b_Log_sameEntries_30 cx _ _ _ _ h hP hS (lv_sub hl [2] rfl)
      · replace h := i_pos hc h
        refine lv_iinc (k := 2) (v := (x2 + 1)) (lv' := [(2, .int (x2 + 1)), (0, .ref a0), (1, .ref a1)]) hx hb d_Log_sameEntries_24 hl rfl (by rw [show Int32.ofInt 1 = (1 : Int32) from by decide]) (Nat.le_of_ble_eq_true rfl) rfl (fun ls hl => ?_)
        refine lv_goto hx hb d_Log_sameEntries_27 rfl ?_
        exact ih _ _ _ _ _ _ o0 o1 h hP hS (lv_sub hl [1, 2, 0] rfl)
def F_Log_sameEntries (R : Nat → Nat → Nat) (a0 : Nat) (a1 : Nat) (I : St) : Option Int32 := B_Log_sameEntries_2 R I 100 a0 a1 (0 : Int32)
set_option maxHeartbeats 4000000 in
set_option maxRecDepth 100000 in
theorem c_Log_sameEntries (l : Launch) {g : Sg} {R : Nat → Nat → Nat} (hT : Ty g R) {a0 : Nat} (o0 : okA g 1 0 a0) {a1 : Nat} (o1 : okA g 1 0 a1) {I : St} {v : Int32} (h : F_Log_sameEntries R a0 a1 I = some v) : Cti l g R y_Log_sameEntries w_Log_sameEntries 1 21 [.ref a0, .ref a1] I v I := by
  unfold Cti
  refine Met.ofW (cc := b_Log_sameEntries) (maxL := 3) (ret := (some .int)) (by decide) rfl ?_
  intro p e s m args below meth c s₁ B hml hv
  obtain ⟨rfl, hP, hK⟩ := hv
  have hts := atoms_spec (ws := w_Log_sameEntries) B.pre
  have hall : ∀ w ∈ w_all, w.before _ s = true := fun w hw => hts w (List.mem_cons_of_mem _ hw)
  have hown : s.vm.findClass R_Log = some m.cls := findClass_of_methodNamed B.named
  have hx := B.exec
  have hb := B.bytes
  have hr := B.returns
  have hlk := B.notSynchronized
  have cx : Cx p s m _ meth c g R R_Log b_Log_sameEntries 3 (some .int) := ⟨hx, hb, hml, hr, hlk, hown, hall, hT, hK⟩
  have hl := lv_entry ([.ref a0, .ref a1]) (n := 3) (Nat.le_of_ble_eq_true rfl)
  rw [lg_entry_eq]
  generalize (lg_sl ([.ref a0, .ref a1]) ++ List.replicate (3 - (lg_sl ([.ref a0, .ref a1])).length) Slot.unset).toArray = ls at hl ⊢
  have hl : lv_has ls 3 [(0, .ref a0), (1, .ref a1)] := hl
  have hS : va_S (· ∈ g.L) s.heap s.heap [] := va_S.rf
  unfold F_Log_sameEntries at h
  refine lv_iconst (v := 0) hx hb d_Log_sameEntries_0 (by decide) ?_
  refine lv_istore_n (lv' := [(2, .int (0 : Int32)), (0, .ref a0), (1, .ref a1)]) hx hb d_Log_sameEntries_1 rfl hl (Nat.le_of_ble_eq_true rfl) rfl (fun ls hl => ?_)
  exact b_Log_sameEntries_2 cx 100 _ _ _ _ _ _ o0 o1 h hP hS (lv_sub hl [1, 2, 0] rfl)
abbrev b_Log_follow : ByteArray := prog_3_method_17_code
def y_Log_follow : MethodName := ⟨"StampedStore$Log", "follow", "(LStampedStore$Log;)V"⟩
def w_Log_follow : List Cond := .code y_Log_follow b_Log_follow 3 none :: w_all
theorem d_Log_follow_0 : decode b_Log_follow 0 = .ok (.aload_n 0, 1) := by decide +kernel
theorem d_Log_follow_1 : decode b_Log_follow 1 = .ok (.aload_n 0, 1) := by decide +kernel
theorem d_Log_follow_2 : decode b_Log_follow 2 = .ok (.aload_n 1, 1) := by decide +kernel
theorem d_Log_follow_3 : decode b_Log_follow 3 = .ok (.invokevirtual 69, 3) := by decide +kernel
theorem d_Log_follow_6 : decode b_Log_follow 6 = .ok (.putfield 27, 3) := by decide +kernel
theorem d_Log_follow_9 : decode b_Log_follow 9 = .ok (.aload_n 0, 1) := by decide +kernel
theorem d_Log_follow_10 : decode b_Log_follow 10 = .ok (.getfield 27, 3) := by decide +kernel
theorem d_Log_follow_13 : decode b_Log_follow 13 = .ok (.istore_n 2, 1) := by decide +kernel
theorem d_Log_follow_14 : decode b_Log_follow 14 = .ok (.iload_n 2, 1) := by decide +kernel
theorem d_Log_follow_15 : decode b_Log_follow 15 = .ok (.aload_n 1, 1) := by decide +kernel
theorem d_Log_follow_16 : decode b_Log_follow 16 = .ok (.getfield 27, 3) := by decide +kernel
theorem d_Log_follow_19 : decode b_Log_follow 19 = .ok (.if_icmp .ge 37, 3) := by decide +kernel
theorem d_Log_follow_22 : decode b_Log_follow 22 = .ok (.aload_n 0, 1) := by decide +kernel
theorem d_Log_follow_23 : decode b_Log_follow 23 = .ok (.aload_n 1, 1) := by decide +kernel
theorem d_Log_follow_24 : decode b_Log_follow 24 = .ok (.getfield 9, 3) := by decide +kernel
theorem d_Log_follow_27 : decode b_Log_follow 27 = .ok (.iload_n 2, 1) := by decide +kernel
theorem d_Log_follow_28 : decode b_Log_follow 28 = .ok (.iaload, 1) := by decide +kernel
theorem d_Log_follow_29 : decode b_Log_follow 29 = .ok (.aload_n 1, 1) := by decide +kernel
theorem d_Log_follow_30 : decode b_Log_follow 30 = .ok (.getfield 15, 3) := by decide +kernel
theorem d_Log_follow_33 : decode b_Log_follow 33 = .ok (.iload_n 2, 1) := by decide +kernel
theorem d_Log_follow_34 : decode b_Log_follow 34 = .ok (.iaload, 1) := by decide +kernel
theorem d_Log_follow_35 : decode b_Log_follow 35 = .ok (.aload_n 1, 1) := by decide +kernel
theorem d_Log_follow_36 : decode b_Log_follow 36 = .ok (.getfield 18, 3) := by decide +kernel
theorem d_Log_follow_39 : decode b_Log_follow 39 = .ok (.iload_n 2, 1) := by decide +kernel
theorem d_Log_follow_40 : decode b_Log_follow 40 = .ok (.iaload, 1) := by decide +kernel
theorem d_Log_follow_41 : decode b_Log_follow 41 = .ok (.aload_n 1, 1) := by decide +kernel
theorem d_Log_follow_42 : decode b_Log_follow 42 = .ok (.getfield 21, 3) := by decide +kernel
theorem d_Log_follow_45 : decode b_Log_follow 45 = .ok (.iload_n 2, 1) := by decide +kernel
theorem d_Log_follow_46 : decode b_Log_follow 46 = .ok (.iaload, 1) := by decide +kernel
theorem d_Log_follow_47 : decode b_Log_follow 47 = .ok (.aload_n 1, 1) := by decide +kernel
theorem d_Log_follow_48 : decode b_Log_follow 48 = .ok (.getfield 24, 3) := by decide +kernel
theorem d_Log_follow_51 : decode b_Log_follow 51 = .ok (.iload_n 2, 1) := by decide +kernel
theorem d_Log_follow_52 : decode b_Log_follow 52 = .ok (.iaload, 1) := by decide +kernel
theorem d_Log_follow_53 : decode b_Log_follow 53 = .ok (.invokevirtual 73, 3) := by decide +kernel
theorem d_Log_follow_56 : decode b_Log_follow 56 = .ok (.return_, 1) := by decide +kernel
def F_Log_follow (R : Nat → Nat → Nat) (a0 : Nat) (a1 : Nat) (I : St) : Option St := (ob (F_Log_sameEntries R a0 a1 I) (fun v3 => (ap (up2 I a0 5 v3) (fun I6 => (if (I6 a1 5) ≤ (I6 a0 5) then some I6 else (chk (I6 a0 5) 60 ((chk (I6 a0 5) 60 ((chk (I6 a0 5) 60 ((chk (I6 a0 5) 60 ((chk (I6 a0 5) 60 ((ob (F_Log_append R a0 (I6 (R a1 0) (I6 a0 5).toNatClampNeg) (I6 (R a1 1) (I6 a0 5).toNatClampNeg) (I6 (R a1 2) (I6 a0 5).toNatClampNeg) (I6 (R a1 3) (I6 a0 5).toNatClampNeg) (I6 (R a1 4) (I6 a0 5).toNatClampNeg) I6) (fun I53 => some I53)))))))))))))))))
set_option maxHeartbeats 4000000 in
set_option maxRecDepth 100000 in
theorem c_Log_follow (l : Launch) {g : Sg} {R : Nat → Nat → Nat} (hT : Ty g R) {a0 : Nat} (o0 : okA g 1 0 a0) {a1 : Nat} (o1 : okA g 1 0 a1) {I : St} {J : St} (h : F_Log_follow R a0 a1 I = some J) : Ctv l g R y_Log_follow w_Log_follow 2 45 [.ref a0, .ref a1] I J := by
  unfold Ctv
  refine Met.ofW (cc := b_Log_follow) (maxL := 3) (ret := none) (by decide) rfl ?_
  intro p e s m args below meth c s₁ B hml hv
  obtain ⟨rfl, hP, hK⟩ := hv
  have hts := atoms_spec (ws := w_Log_follow) B.pre
  have hall : ∀ w ∈ w_all, w.before _ s = true := fun w hw => hts w (List.mem_cons_of_mem _ hw)
  have hown : s.vm.findClass R_Log = some m.cls := findClass_of_methodNamed B.named
  have hx := B.exec
  have hb := B.bytes
  have hr := B.returns
  have hlk := B.notSynchronized
  have cx : Cx p s m _ meth c g R R_Log b_Log_follow 3 none := ⟨hx, hb, hml, hr, hlk, hown, hall, hT, hK⟩
  have hl := lv_entry ([.ref a0, .ref a1]) (n := 3) (Nat.le_of_ble_eq_true rfl)
  rw [lg_entry_eq]
  generalize (lg_sl ([.ref a0, .ref a1]) ++ List.replicate (3 - (lg_sl ([.ref a0, .ref a1])).length) Slot.unset).toArray = ls at hl ⊢
  have hl : lv_has ls 3 [(0, .ref a0), (1, .ref a1)] := hl
  have hS : va_S (· ∈ g.L) s.heap s.heap [] := va_S.rf
  unfold F_Log_follow at h
  refine lv_aload_n hx hb d_Log_follow_0 rfl (lv_at hl 0 rfl) ?_
  refine lv_aload_n hx hb d_Log_follow_1 rfl (lv_at hl 0 rfl) ?_
  refine lv_aload_n hx hb d_Log_follow_2 rfl (lv_at hl 1 rfl) ?_
  obtain ⟨v3, e3, h⟩ := ob_el h
  refine gg_Vi (As := [.ref a1]) (rest := [.ref a0]) (ci := 1) (C := R_Log) (T := F_Log) (N := 7) ⟨hx, hb, hml, hown, hall⟩ (c_Log_sameEntries l hT o0 o1 e3) (cwV 1 hall (gV m_129 m_130 m_131 m_38 m_128) rfl rfl rfl (by decide +kernel) ⟨Nat.le_of_ble_eq_true rfl, Nat.le_of_ble_eq_true rfl⟩) hK hP hS o0.1 (wE_1 o0.2) rfl rfl hl.1 rfl (Nat.le_of_ble_eq_true rfl) d_Log_follow_3 (fun H locs hP hS => ?_)
  refine gg_put (C := R_Log) (T := F_Log) (N := 7) (ci := 1) (ty := .int) hx hb hall i_Log t_Log t_Log_ok n_Log hown hT.1 hK hP hS o0.1 (wE_1 o0.2) rfl 5 (by decide) (hall _ m_32) (fun _ h9 => h9) rfl (by decide +kernel) rfl rfl (Nat.le_of_ble_eq_true rfl) (ws_Log_5 o0.2) d_Log_follow_6 (fun I6 H locs e6 hP hS => ?_)
  replace h := ap_el e6 h
  refine lv_aload_n hx hb d_Log_follow_9 rfl (lv_at hl 0 rfl) ?_
  refine gg_get (C := R_Log) (T := F_Log) (N := 7) (ci := 1) hx hb hall i_Log hown hK hP o0.1 (wE_1 o0.2) rfl 5 (by decide) (hall _ m_32) (fun _ h9 => h9) rfl d_Log_follow_10 ?_
  refine lv_istore_n (lv' := [(2, .int (I6 a0 5)), (0, .ref a0), (1, .ref a1)]) hx hb d_Log_follow_13 rfl hl (Nat.le_of_ble_eq_true rfl) rfl (fun ls hl => ?_)
  refine lv_iload_n hx hb d_Log_follow_14 rfl (lv_at hl 0 rfl) ?_
  refine lv_aload_n hx hb d_Log_follow_15 rfl (lv_at hl 2 rfl) ?_
  refine gg_get (C := R_Log) (T := F_Log) (N := 7) (ci := 1) hx hb hall i_Log hown hK hP o1.1 (wE_1 o1.2) rfl 5 (by decide) (hall _ m_32) (fun _ h9 => h9) rfl d_Log_follow_16 ?_
  refine lv_icmp_ge hx hb d_Log_follow_19 rfl (fun hc => ?_) (fun hc => ?_)
  · replace h := i_pos hc h
    obtain rfl := Option.some.inj h
    exact gg_vret hx hb hr hlk hK hP hS d_Log_follow_56
  · replace h := i_neg hc h
    refine lv_aload_n hx hb d_Log_follow_22 rfl (lv_at hl 1 rfl) ?_
    refine lv_aload_n hx hb d_Log_follow_23 rfl (lv_at hl 2 rfl) ?_
    refine gg_get (C := R_Log) (T := F_Log) (N := 7) (ci := 1) hx hb hall i_Log hown hK hP o1.1 (wE_1 o1.2) rfl 0 (by decide) (hall _ m_33) (fun _ h9 => h9) rfl d_Log_follow_24 ?_
    have o_24 : okA g 6 60 (R a1 0) := ty_Log_0 hT o1
    refine lv_iload_n hx hb d_Log_follow_27 rfl (lv_at hl 0 rfl) ?_
    obtain ⟨hi28, h⟩ := chk_el h
    refine gg_iald hx hb hK hP o_24 hi28 d_Log_follow_28 ?_
    refine lv_aload_n hx hb d_Log_follow_29 rfl (lv_at hl 2 rfl) ?_
    refine gg_get (C := R_Log) (T := F_Log) (N := 7) (ci := 1) hx hb hall i_Log hown hK hP o1.1 (wE_1 o1.2) rfl 1 (by decide) (hall _ m_73) (fun _ h9 => h9) rfl d_Log_follow_30 ?_
    have o_30 : okA g 6 60 (R a1 1) := ty_Log_1 hT o1
    refine lv_iload_n hx hb d_Log_follow_33 rfl (lv_at hl 0 rfl) ?_
    obtain ⟨hi34, h⟩ := chk_el h
    refine gg_iald hx hb hK hP o_30 hi34 d_Log_follow_34 ?_
    refine lv_aload_n hx hb d_Log_follow_35 rfl (lv_at hl 2 rfl) ?_
    refine gg_get (C := R_Log) (T := F_Log) (N := 7) (ci := 1) hx hb hall i_Log hown hK hP o1.1 (wE_1 o1.2) rfl 2 (by decide) (hall _ m_88) (fun _ h9 => h9) rfl d_Log_follow_36 ?_
    have o_36 : okA g 6 60 (R a1 2) := ty_Log_2 hT o1
    refine lv_iload_n hx hb d_Log_follow_39 rfl (lv_at hl 0 rfl) ?_
    obtain ⟨hi40, h⟩ := chk_el h
    refine gg_iald hx hb hK hP o_36 hi40 d_Log_follow_40 ?_
    refine lv_aload_n hx hb d_Log_follow_41 rfl (lv_at hl 2 rfl) ?_
    refine gg_get (C := R_Log) (T := F_Log) (N := 7) (ci := 1) hx hb hall i_Log hown hK hP o1.1 (wE_1 o1.2) rfl 3 (by decide) (hall _ m_89) (fun _ h9 => h9) rfl d_Log_follow_42 ?_
    have o_42 : okA g 6 60 (R a1 3) := ty_Log_3 hT o1
    refine lv_iload_n hx hb d_Log_follow_45 rfl (lv_at hl 0 rfl) ?_
    obtain ⟨hi46, h⟩ := chk_el h
    refine gg_iald hx hb hK hP o_42 hi46 d_Log_follow_46 ?_
    refine lv_aload_n hx hb d_Log_follow_47 rfl (lv_at hl 2 rfl) ?_
    refine gg_get (C := R_Log) (T := F_Log) (N := 7) (ci := 1) hx hb hall i_Log hown hK hP o1.1 (wE_1 o1.2) rfl 4 (by decide) (hall _ m_74) (fun _ h9 => h9) rfl d_Log_follow_48 ?_
    have o_48 : okA g 6 60 (R a1 4) := ty_Log_4 hT o1
    refine lv_iload_n hx hb d_Log_follow_51 rfl (lv_at hl 0 rfl) ?_
    obtain ⟨hi52, h⟩ := chk_el h
    refine gg_iald hx hb hK hP o_48 hi52 d_Log_follow_52 ?_
    obtain ⟨I53, e53, h⟩ := ob_el h
    refine gg_Vv (As := [.int (I6 (R a1 0) (I6 a0 5).toNatClampNeg), .int (I6 (R a1 1) (I6 a0 5).toNatClampNeg), .int (I6 (R a1 2) (I6 a0 5).toNatClampNeg), .int (I6 (R a1 3) (I6 a0 5).toNatClampNeg), .int (I6 (R a1 4) (I6 a0 5).toNatClampNeg)]) (rest := []) (ci := 1) (C := R_Log) (T := F_Log) (N := 7) ⟨hx, hb, hml, hown, hall⟩ (c_Log_append l hT o0 e53) (cwV 5 hall (gV m_132 m_98 m_99 m_38 m_90) rfl rfl rfl (by decide +kernel) ⟨Nat.le_of_ble_eq_true rfl, Nat.le_of_ble_eq_true rfl⟩) hK hP hS o0.1 (wE_1 o0.2) rfl rfl hl.1 rfl (Nat.le_of_ble_eq_true rfl) d_Log_follow_53 (fun H locs hP hS => ?_)
    obtain rfl := Option.some.inj h
    exact gg_vret hx hb hr hlk hK hP hS d_Log_follow_56
abbrev b_Store_isInAnotherLog : ByteArray := prog_1_method_32_code
def y_Store_isInAnotherLog : MethodName := ⟨"StampedStore", "isInAnotherLog", "(LStampedStore$Node;I)Z"⟩
def w_Store_isInAnotherLog : List Cond := .code y_Store_isInAnotherLog b_Store_isInAnotherLog 5 (some .boolean) :: w_all
theorem d_Store_isInAnotherLog_0 : decode b_Store_isInAnotherLog 0 = .ok (.aload_n 1, 1) := by decide +kernel
theorem d_Store_isInAnotherLog_1 : decode b_Store_isInAnotherLog 1 = .ok (.invokestatic 207, 3) := by decide +kernel
theorem d_Store_isInAnotherLog_4 : decode b_Store_isInAnotherLog 4 = .ok (.istore_n 3, 1) := by decide +kernel
theorem d_Store_isInAnotherLog_5 : decode b_Store_isInAnotherLog 5 = .ok (.iload_n 3, 1) := by decide +kernel
theorem d_Store_isInAnotherLog_6 : decode b_Store_isInAnotherLog 6 = .ok (.istore 4, 2) := by decide +kernel
theorem d_Store_isInAnotherLog_8 : decode b_Store_isInAnotherLog 8 = .ok (.iload 4, 2) := by decide +kernel
theorem d_Store_isInAnotherLog_10 : decode b_Store_isInAnotherLog 10 = .ok (.iload_n 3, 1) := by decide +kernel
theorem d_Store_isInAnotherLog_11 : decode b_Store_isInAnotherLog 11 = .ok (.iconst 3, 1) := by decide +kernel
theorem d_Store_isInAnotherLog_12 : decode b_Store_isInAnotherLog 12 = .ok (.iadd, 1) := by decide +kernel
theorem d_Store_isInAnotherLog_13 : decode b_Store_isInAnotherLog 13 = .ok (.if_icmp .ge 45, 3) := by decide +kernel
theorem d_Store_isInAnotherLog_16 : decode b_Store_isInAnotherLog 16 = .ok (.iload 4, 2) := by decide +kernel
theorem d_Store_isInAnotherLog_18 : decode b_Store_isInAnotherLog 18 = .ok (.aload_n 1, 1) := by decide +kernel
theorem d_Store_isInAnotherLog_19 : decode b_Store_isInAnotherLog 19 = .ok (.getfield 201, 3) := by decide +kernel
theorem d_Store_isInAnotherLog_22 : decode b_Store_isInAnotherLog 22 = .ok (.if_icmp .eq 30, 3) := by decide +kernel
theorem d_Store_isInAnotherLog_25 : decode b_Store_isInAnotherLog 25 = .ok (.aload_n 0, 1) := by decide +kernel
theorem d_Store_isInAnotherLog_26 : decode b_Store_isInAnotherLog 26 = .ok (.getfield 11, 3) := by decide +kernel
theorem d_Store_isInAnotherLog_29 : decode b_Store_isInAnotherLog 29 = .ok (.iload 4, 2) := by decide +kernel
theorem d_Store_isInAnotherLog_31 : decode b_Store_isInAnotherLog 31 = .ok (.aaload, 1) := by decide +kernel
theorem d_Store_isInAnotherLog_32 : decode b_Store_isInAnotherLog 32 = .ok (.getfield 97, 3) := by decide +kernel
theorem d_Store_isInAnotherLog_35 : decode b_Store_isInAnotherLog 35 = .ok (.iload_n 2, 1) := by decide +kernel
theorem d_Store_isInAnotherLog_36 : decode b_Store_isInAnotherLog 36 = .ok (.invokevirtual 218, 3) := by decide +kernel
theorem d_Store_isInAnotherLog_39 : decode b_Store_isInAnotherLog 39 = .ok (.aload_n 1, 1) := by decide +kernel
theorem d_Store_isInAnotherLog_40 : decode b_Store_isInAnotherLog 40 = .ok (.getfield 97, 3) := by decide +kernel
theorem d_Store_isInAnotherLog_43 : decode b_Store_isInAnotherLog 43 = .ok (.iload_n 2, 1) := by decide +kernel
theorem d_Store_isInAnotherLog_44 : decode b_Store_isInAnotherLog 44 = .ok (.invokevirtual 218, 3) := by decide +kernel
theorem d_Store_isInAnotherLog_47 : decode b_Store_isInAnotherLog 47 = .ok (.if_icmp .ne 5, 3) := by decide +kernel
theorem d_Store_isInAnotherLog_50 : decode b_Store_isInAnotherLog 50 = .ok (.iconst 1, 1) := by decide +kernel
theorem d_Store_isInAnotherLog_51 : decode b_Store_isInAnotherLog 51 = .ok (.ireturn, 1) := by decide +kernel
theorem d_Store_isInAnotherLog_52 : decode b_Store_isInAnotherLog 52 = .ok (.iinc 4 1, 3) := by decide +kernel
theorem d_Store_isInAnotherLog_55 : decode b_Store_isInAnotherLog 55 = .ok (.goto (-47), 3) := by decide +kernel
theorem d_Store_isInAnotherLog_58 : decode b_Store_isInAnotherLog 58 = .ok (.iconst 0, 1) := by decide +kernel
theorem d_Store_isInAnotherLog_59 : decode b_Store_isInAnotherLog 59 = .ok (.ireturn, 1) := by decide +kernel
def B_Store_isInAnotherLog_52 (R : Nat → Nat → Nat) (I : St) (k8 : Nat → Nat → Int32 → Int32 → Int32 → Option Int32) (a0 : Nat) (a1 : Nat) (x2 : Int32) (x3 : Int32) (x4 : Int32) : Option Int32 := k8 a0 a1 x2 x3 (x4 + 1)
set_option maxHeartbeats 4000000 in
set_option maxRecDepth 100000 in
theorem b_Store_isInAnotherLog_52 {p : Program} {l : Launch} {e : Env} {s : State} {m : MethodId} {args : Array Value} {below : List Frame} {meth : Method} {c : Code} {g : Sg} {R : Nat → Nat → Nat} {I : St} {v : Int32} (cx : Cx p s m args meth c g R R_Store b_Store_isInAnotherLog 5 (some .boolean)) {k8 : Nat → Nat → Int32 → Int32 → Int32 → Option Int32} (hk8 : ∀ (a0 : Nat) (a1 : Nat) (x2 : Int32) (x3 : Int32) (x4 : Int32) (H : Heap) (locs : List Loc) (ls : Array Slot), okA g 4 0 a0 → okA g 2 0 a1 → k8 a0 a1 x2 x3 x4 = some v → wW g R I H → va_S (· ∈ g.L) s.heap H locs → lv_has ls 5 [(0, .ref a0), (1, .ref a1), (2, .int x2), (3, .int x3), (4, .int x4)] → W p l e { frames := 2, cells := 0, slots := 0, locals := 40 } s m args below meth c H locs 0 0 (MQ below (Qi g R v I) args s 0 0 (· ∈ g.L)) (F0 m 8 ls [])) : ∀ (a0 : Nat) (a1 : Nat) (x2 : Int32) (x3 : Int32) (x4 : Int32) (H : Heap) (locs : List Loc) (ls : Array Slot), okA g 4 0 a0 → okA g 2 0 a1 → B_Store_isInAnotherLog_52 R I k8 a0 a1 x2 x3 x4 = some v → wW g R I H → va_S (· ∈ g.L) s.heap H locs → lv_has ls 5 [(0, .ref a0), (1, .ref a1), (2, .int x2), (3, .int x3), (4, .int x4)] → W p l e { frames := 2, cells := 0, slots := 0, locals := 40 } s m args below meth c H locs 0 0 (MQ below (Qi g R v I) args s 0 0 (· ∈ g.L)) (F0 m 52 ls []) := by
  have ⟨hx, hb, hml, hr, hlk, hown, hall, hT, hK⟩ := cx
  intro a0 a1 x2 x3 x4 H locs ls o0 o1 h hP hS hl
  unfold B_Store_isInAnotherLog_52 at h
  refine lv_iinc (k := 4) (v := (x4 + 1)) (lv' := [(4, .int (x4 + 1)), (0, .ref a0), (1, .ref a1), (2, .int x2), (3, .int x3)]) hx hb d_Store_isInAnotherLog_52 hl rfl (by rw [show Int32.ofInt 1 = (1 : Int32) from by decide]) (Nat.le_of_ble_eq_true rfl) rfl (fun ls hl => ?_)
  refine lv_goto hx hb d_Store_isInAnotherLog_55 rfl ?_
  exact hk8 _ _ _ _ _ _ _ _ o0 o1 h hP hS (lv_sub hl [1, 2, 3, 4, 0] rfl)
def B_Store_isInAnotherLog_8 (R : Nat → Nat → Nat) (I : St) : Nat → Nat → Nat → Int32 → Int32 → Int32 → Option Int32
  | 0, _, _, _, _, _ => none
  | f + 1, a0, a1, x2, x3, x4 => (if (x3 + (3 : Int32)) ≤ x4 then some (0 : Int32) else (if x4 = (I a1 0) then B_Store_isInAnotherLog_52 R I (B_Store_isInAnotherLog_8 R I f) a0 a1 x2 x3 x4 else (chk x4 6 ((ob (F_Log_epochAt R (R (R (R a0 1) x4.toNatClampNeg) 2) x2 I) (fun v36 => (ob (F_Log_epochAt R (R a1 2) x2 I) (fun v44 => (if v36 = v44 then some (1 : Int32) else B_Store_isInAnotherLog_52 R I (B_Store_isInAnotherLog_8 R I f) a0 a1 x2 x3 x4)))))))))
set_option maxHeartbeats 4000000 in
set_option maxRecDepth 100000 in
theorem b_Store_isInAnotherLog_8 {p : Program} {l : Launch} {e : Env} {s : State} {m : MethodId} {args : Array Value} {below : List Frame} {meth : Method} {c : Code} {g : Sg} {R : Nat → Nat → Nat} {I : St} {v : Int32} (cx : Cx p s m args meth c g R R_Store b_Store_isInAnotherLog 5 (some .boolean)) (f : Nat) : ∀ (a0 : Nat) (a1 : Nat) (x2 : Int32) (x3 : Int32) (x4 : Int32) (H : Heap) (locs : List Loc) (ls : Array Slot), okA g 4 0 a0 → okA g 2 0 a1 → B_Store_isInAnotherLog_8 R I f a0 a1 x2 x3 x4 = some v → wW g R I H → va_S (· ∈ g.L) s.heap H locs → lv_has ls 5 [(0, .ref a0), (1, .ref a1), (2, .int x2), (3, .int x3), (4, .int x4)] → W p l e { frames := 2, cells := 0, slots := 0, locals := 40 } s m args below meth c H locs 0 0 (MQ below (Qi g R v I) args s 0 0 (· ∈ g.L)) (F0 m 8 ls []) := by
  have ⟨hx, hb, hml, hr, hlk, hown, hall, hT, hK⟩ := cx
  induction f with
  | zero => intro a0 a1 x2 x3 x4 H locs ls o0 o1 h; unfold B_Store_isInAnotherLog_8 at h; cases h
  | succ f ih =>
    intro a0 a1 x2 x3 x4 H locs ls o0 o1 h hP hS hl
    unfold B_Store_isInAnotherLog_8 at h
    refine lv_iload hx hb d_Store_isInAnotherLog_8 (lv_at hl 4 rfl) ?_
    refine lv_iload_n hx hb d_Store_isInAnotherLog_10 rfl (lv_at hl 3 rfl) ?_
    refine lv_iconst (v := 3) hx hb d_Store_isInAnotherLog_11 (by decide) ?_
    refine lv_iadd hx hb d_Store_isInAnotherLog_12 ?_
    refine lv_icmp_ge hx hb d_Store_isInAnotherLog_13 rfl (fun hc => ?_) (fun hc => ?_)
    · replace h := i_pos hc h
      refine lv_iconst (v := 0) hx hb d_Store_isInAnotherLog_58 (by decide) ?_
      obtain rfl := Option.some.inj h
      exact gg_zret hx hb hr hlk rfl hK hP hS d_Store_isInAnotherLog_59
    · replace h := i_neg hc h
      refine lv_iload hx hb d_Store_isInAnotherLog_16 (lv_at hl 4 rfl) ?_
      refine lv_aload_n hx hb d_Store_isInAnotherLog_18 rfl (lv_at hl 1 rfl) ?_
      refine gg_get (C := R_Node) (T := F_Node) (N := 10) (ci := 2) hx hb hall i_Node hown hK hP o1.1 (wE_2 o1.2) rfl 0 (by decide) (hall _ m_23) (fun _ h9 => h9) rfl d_Store_isInAnotherLog_19 ?_
      refine lv_icmp_eq hx hb d_Store_isInAnotherLog_22 rfl (fun hc => ?_) (fun hc => ?_)
      · replace h := i_pos hc h
        exact b_Store_isInAnotherLog_52 cx ih _ _ _ _ _ _ _ _ o0 o1 h hP hS (lv_sub hl [0, 1, 2, 3, 4] rfl)
      · replace h := i_neg hc h
        refine lv_aload_n hx hb d_Store_isInAnotherLog_25 rfl (lv_at hl 0 rfl) ?_
        refine gg_get (C := R_Store) (T := F_Store) (N := 4) (ci := 4) hx hb hall i_Store hown hK hP o0.1 (wE_4 o0.2) rfl 1 (by decide) (hall _ m_8) (fun _ h9 => h9) rfl d_Store_isInAnotherLog_26 ?_
        have o_26 : okA g 8 6 (R a0 1) := ty_Store_1 hT o0
        refine lv_iload hx hb d_Store_isInAnotherLog_29 (lv_at hl 4 rfl) ?_
        obtain ⟨hi31, h⟩ := chk_el h
        refine gg_nald hx hb hK hP o_26 hi31 d_Store_isInAnotherLog_31 ?_
        have o_31 : okA g 2 0 (R (R a0 1) x4.toNatClampNeg) := ty_8 hT o_26 _
        refine gg_get (C := R_Node) (T := F_Node) (N := 10) (ci := 2) hx hb hall i_Node hown hK hP o_31.1 (wE_2 o_31.2) rfl 2 (by decide) (hall _ m_134) (fun _ h9 => h9) rfl d_Store_isInAnotherLog_32 ?_
        have o_32 : okA g 1 0 (R (R (R a0 1) x4.toNatClampNeg) 2) := ty_Node_2 hT o_31
        refine lv_iload_n hx hb d_Store_isInAnotherLog_35 rfl (lv_at hl 2 rfl) ?_
        obtain ⟨v36, e36, h⟩ := ob_el h
        refine gg_Vi (As := [.int x2]) (rest := []) (ci := 1) (C := R_Log) (T := F_Log) (N := 7) ⟨hx, hb, hml, hown, hall⟩ (c_Log_epochAt l hT o_32 e36) (cwV 1 hall (gV m_135 m_126 m_127 m_38 m_124) rfl rfl rfl (by decide +kernel) ⟨Nat.le_of_ble_eq_true rfl, Nat.le_of_ble_eq_true rfl⟩) hK hP hS o_32.1 (wE_1 o_32.2) rfl rfl hl.1 rfl (Nat.le_of_ble_eq_true rfl) d_Store_isInAnotherLog_36 (fun H locs hP hS => ?_)
        refine lv_aload_n hx hb d_Store_isInAnotherLog_39 rfl (lv_at hl 1 rfl) ?_
        refine gg_get (C := R_Node) (T := F_Node) (N := 10) (ci := 2) hx hb hall i_Node hown hK hP o1.1 (wE_2 o1.2) rfl 2 (by decide) (hall _ m_134) (fun _ h9 => h9) rfl d_Store_isInAnotherLog_40 ?_
        have o_40 : okA g 1 0 (R a1 2) := ty_Node_2 hT o1
        refine lv_iload_n hx hb d_Store_isInAnotherLog_43 rfl (lv_at hl 2 rfl) ?_
        obtain ⟨v44, e44, h⟩ := ob_el h
        refine gg_Vi (As := [.int x2]) (rest := [.int v36]) (ci := 1) (C := R_Log) (T := F_Log) (N := 7) ⟨hx, hb, hml, hown, hall⟩ (c_Log_epochAt l hT o_40 e44) (cwV 1 hall (gV m_135 m_126 m_127 m_38 m_124) rfl rfl rfl (by decide +kernel) ⟨Nat.le_of_ble_eq_true rfl, Nat.le_of_ble_eq_true rfl⟩) hK hP hS o_40.1 (wE_1 o_40.2) rfl rfl hl.1 rfl (Nat.le_of_ble_eq_true rfl) d_Store_isInAnotherLog_44 (fun H locs hP hS => ?_)
        refine lv_icmp_ne hx hb d_Store_isInAnotherLog_47 rfl (fun hc => ?_) (fun hc => ?_)
        · replace h := i_neg hc h
          exact b_Store_isInAnotherLog_52 cx ih _ _ _ _ _ _ _ _ o0 o1 h hP hS (lv_sub hl [0, 1, 2, 3, 4] rfl)
        · replace h := i_pos hc h
          refine lv_iconst (v := 1) hx hb d_Store_isInAnotherLog_50 (by decide) ?_
          obtain rfl := Option.some.inj h
          exact gg_zret hx hb hr hlk rfl hK hP hS d_Store_isInAnotherLog_51
def F_Store_isInAnotherLog (R : Nat → Nat → Nat) (a0 : Nat) (a1 : Nat) (x2 : Int32) (I : St) : Option Int32 := (ob (F_Store_firstNodeBeside R a1 I) (fun v1 => B_Store_isInAnotherLog_8 R I 100 a0 a1 x2 v1 v1))
set_option maxHeartbeats 4000000 in
set_option maxRecDepth 100000 in
theorem c_Store_isInAnotherLog (l : Launch) {g : Sg} {R : Nat → Nat → Nat} (hT : Ty g R) {a0 : Nat} (o0 : okA g 4 0 a0) {a1 : Nat} (o1 : okA g 2 0 a1) {x2 : Int32} {I : St} {v : Int32} (h : F_Store_isInAnotherLog R a0 a1 x2 I = some v) : Cti l g R y_Store_isInAnotherLog w_Store_isInAnotherLog 2 40 [.ref a0, .ref a1, .int x2] I v I := by
  unfold Cti
  refine Met.ofW (cc := b_Store_isInAnotherLog) (maxL := 5) (ret := (some .boolean)) (by decide) rfl ?_
  intro p e s m args below meth c s₁ B hml hv
  obtain ⟨rfl, hP, hK⟩ := hv
  have hts := atoms_spec (ws := w_Store_isInAnotherLog) B.pre
  have hall : ∀ w ∈ w_all, w.before _ s = true := fun w hw => hts w (List.mem_cons_of_mem _ hw)
  have hown : s.vm.findClass R_Store = some m.cls := findClass_of_methodNamed B.named
  have hx := B.exec
  have hb := B.bytes
  have hr := B.returns
  have hlk := B.notSynchronized
  have cx : Cx p s m _ meth c g R R_Store b_Store_isInAnotherLog 5 (some .boolean) := ⟨hx, hb, hml, hr, hlk, hown, hall, hT, hK⟩
  have hl := lv_entry ([.ref a0, .ref a1, .int x2]) (n := 5) (Nat.le_of_ble_eq_true rfl)
  rw [lg_entry_eq]
  generalize (lg_sl ([.ref a0, .ref a1, .int x2]) ++ List.replicate (5 - (lg_sl ([.ref a0, .ref a1, .int x2])).length) Slot.unset).toArray = ls at hl ⊢
  have hl : lv_has ls 5 [(0, .ref a0), (1, .ref a1), (2, .int x2)] := hl
  have hS : va_S (· ∈ g.L) s.heap s.heap [] := va_S.rf
  unfold F_Store_isInAnotherLog at h
  refine lv_aload_n hx hb d_Store_isInAnotherLog_0 rfl (lv_at hl 1 rfl) ?_
  obtain ⟨v1, e1, h⟩ := ob_el h
  refine gg_Si (As := [.ref a1]) (rest := []) ⟨hx, hb, hml, hown, hall⟩ (c_Store_firstNodeBeside l hT o1 e1) (cwS 1 hall (gS m_70 m_71 m_6 m_26) rfl rfl rfl (by decide +kernel) ⟨Nat.le_of_ble_eq_true rfl, Nat.le_of_ble_eq_true rfl⟩) hK hP hS rfl hl.1 rfl (Nat.le_of_ble_eq_true rfl) d_Store_isInAnotherLog_1 (fun H locs hP hS => ?_)
  refine lv_istore_n (lv' := [(3, .int v1), (0, .ref a0), (1, .ref a1), (2, .int x2)]) hx hb d_Store_isInAnotherLog_4 rfl hl (Nat.le_of_ble_eq_true rfl) rfl (fun ls hl => ?_)
  refine lv_iload_n hx hb d_Store_isInAnotherLog_5 rfl (lv_at hl 0 rfl) ?_
  refine lv_istore (lv' := [(4, .int v1), (3, .int v1), (0, .ref a0), (1, .ref a1), (2, .int x2)]) hx hb d_Store_isInAnotherLog_6 hl (Nat.le_of_ble_eq_true rfl) rfl (fun ls hl => ?_)
  exact b_Store_isInAnotherLog_8 cx 100 _ _ _ _ _ _ _ _ o0 o1 h hP hS (lv_sub hl [2, 3, 4, 1, 0] rfl)
end
