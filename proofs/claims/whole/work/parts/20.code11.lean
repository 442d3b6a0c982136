section
abbrev b_Store_stepCommitting : ByteArray := prog_1_method_44_code
def y_Store_stepCommitting : MethodName := ⟨"StampedStore", "stepCommitting", "(I)I"⟩
def w_Store_stepCommitting : List Cond := .code y_Store_stepCommitting b_Store_stepCommitting 5 (some .int) :: w_all
theorem d_Store_stepCommitting_0 : decode b_Store_stepCommitting 0 = .ok (.aload_n 0, 1) := by decide +kernel
theorem d_Store_stepCommitting_1 : decode b_Store_stepCommitting 1 = .ok (.getfield 17, 3) := by decide +kernel
theorem d_Store_stepCommitting_4 : decode b_Store_stepCommitting 4 = .ok (.iload_n 1, 1) := by decide +kernel
theorem d_Store_stepCommitting_5 : decode b_Store_stepCommitting 5 = .ok (.aaload, 1) := by decide +kernel
theorem d_Store_stepCommitting_6 : decode b_Store_stepCommitting 6 = .ok (.astore_n 2, 1) := by decide +kernel
theorem d_Store_stepCommitting_7 : decode b_Store_stepCommitting 7 = .ok (.aload_n 0, 1) := by decide +kernel
theorem d_Store_stepCommitting_8 : decode b_Store_stepCommitting 8 = .ok (.aload_n 2, 1) := by decide +kernel
theorem d_Store_stepCommitting_9 : decode b_Store_stepCommitting 9 = .ok (.iconst 0, 1) := by decide +kernel
theorem d_Store_stepCommitting_10 : decode b_Store_stepCommitting 10 = .ok (.invokevirtual 240, 3) := by decide +kernel
theorem d_Store_stepCommitting_13 : decode b_Store_stepCommitting 13 = .ok (.ifCond .eq 7, 3) := by decide +kernel
theorem d_Store_stepCommitting_16 : decode b_Store_stepCommitting 16 = .ok (.iconst 0, 1) := by decide +kernel
theorem d_Store_stepCommitting_17 : decode b_Store_stepCommitting 17 = .ok (.goto 4, 3) := by decide +kernel
theorem d_Store_stepCommitting_20 : decode b_Store_stepCommitting 20 = .ok (.iconst 1, 1) := by decide +kernel
theorem d_Store_stepCommitting_21 : decode b_Store_stepCommitting 21 = .ok (.invokevirtual 141, 3) := by decide +kernel
theorem d_Store_stepCommitting_24 : decode b_Store_stepCommitting 24 = .ok (.istore_n 3, 1) := by decide +kernel
theorem d_Store_stepCommitting_25 : decode b_Store_stepCommitting 25 = .ok (.iload_n 3, 1) := by decide +kernel
theorem d_Store_stepCommitting_26 : decode b_Store_stepCommitting 26 = .ok (.iconst (-1), 1) := by decide +kernel
theorem d_Store_stepCommitting_27 : decode b_Store_stepCommitting 27 = .ok (.if_icmp .ne 6, 3) := by decide +kernel
theorem d_Store_stepCommitting_30 : decode b_Store_stepCommitting 30 = .ok (.bipush (-3), 2) := by decide +kernel
theorem d_Store_stepCommitting_32 : decode b_Store_stepCommitting 32 = .ok (.ireturn, 1) := by decide +kernel
theorem d_Store_stepCommitting_33 : decode b_Store_stepCommitting 33 = .ok (.aload_n 0, 1) := by decide +kernel
theorem d_Store_stepCommitting_34 : decode b_Store_stepCommitting 34 = .ok (.getfield 11, 3) := by decide +kernel
theorem d_Store_stepCommitting_37 : decode b_Store_stepCommitting 37 = .ok (.iload_n 3, 1) := by decide +kernel
theorem d_Store_stepCommitting_38 : decode b_Store_stepCommitting 38 = .ok (.aaload, 1) := by decide +kernel
theorem d_Store_stepCommitting_39 : decode b_Store_stepCommitting 39 = .ok (.getfield 97, 3) := by decide +kernel
theorem d_Store_stepCommitting_42 : decode b_Store_stepCommitting 42 = .ok (.astore 4, 2) := by decide +kernel
theorem d_Store_stepCommitting_44 : decode b_Store_stepCommitting 44 = .ok (.aload 4, 2) := by decide +kernel
theorem d_Store_stepCommitting_46 : decode b_Store_stepCommitting 46 = .ok (.iconst 2, 1) := by decide +kernel
theorem d_Store_stepCommitting_47 : decode b_Store_stepCommitting 47 = .ok (.iload_n 1, 1) := by decide +kernel
theorem d_Store_stepCommitting_48 : decode b_Store_stepCommitting 48 = .ok (.invokevirtual 260, 3) := by decide +kernel
theorem d_Store_stepCommitting_51 : decode b_Store_stepCommitting 51 = .ok (.ifCond .ne 22, 3) := by decide +kernel
theorem d_Store_stepCommitting_54 : decode b_Store_stepCommitting 54 = .ok (.aload_n 2, 1) := by decide +kernel
theorem d_Store_stepCommitting_55 : decode b_Store_stepCommitting 55 = .ok (.aload_n 2, 1) := by decide +kernel
theorem d_Store_stepCommitting_56 : decode b_Store_stepCommitting 56 = .ok (.invokevirtual 257, 3) := by decide +kernel
theorem d_Store_stepCommitting_59 : decode b_Store_stepCommitting 59 = .ok (.ifCond .eq 7, 3) := by decide +kernel
theorem d_Store_stepCommitting_62 : decode b_Store_stepCommitting 62 = .ok (.iconst 1, 1) := by decide +kernel
theorem d_Store_stepCommitting_63 : decode b_Store_stepCommitting 63 = .ok (.goto 4, 3) := by decide +kernel
theorem d_Store_stepCommitting_66 : decode b_Store_stepCommitting 66 = .ok (.iconst 4, 1) := by decide +kernel
theorem d_Store_stepCommitting_67 : decode b_Store_stepCommitting 67 = .ok (.putfield 128, 3) := by decide +kernel
theorem d_Store_stepCommitting_70 : decode b_Store_stepCommitting 70 = .ok (.goto 48, 3) := by decide +kernel
theorem d_Store_stepCommitting_73 : decode b_Store_stepCommitting 73 = .ok (.aload 4, 2) := by decide +kernel
theorem d_Store_stepCommitting_75 : decode b_Store_stepCommitting 75 = .ok (.iconst 2, 1) := by decide +kernel
theorem d_Store_stepCommitting_76 : decode b_Store_stepCommitting 76 = .ok (.iload_n 1, 1) := by decide +kernel
theorem d_Store_stepCommitting_77 : decode b_Store_stepCommitting 77 = .ok (.invokevirtual 264, 3) := by decide +kernel
theorem d_Store_stepCommitting_80 : decode b_Store_stepCommitting 80 = .ok (.ifCond .eq 38, 3) := by decide +kernel
theorem d_Store_stepCommitting_83 : decode b_Store_stepCommitting 83 = .ok (.aload 4, 2) := by decide +kernel
theorem d_Store_stepCommitting_85 : decode b_Store_stepCommitting 85 = .ok (.iconst 2, 1) := by decide +kernel
theorem d_Store_stepCommitting_86 : decode b_Store_stepCommitting 86 = .ok (.iload_n 1, 1) := by decide +kernel
theorem d_Store_stepCommitting_87 : decode b_Store_stepCommitting 87 = .ok (.invokevirtual 267, 3) := by decide +kernel
theorem d_Store_stepCommitting_90 : decode b_Store_stepCommitting 90 = .ok (.aload_n 0, 1) := by decide +kernel
theorem d_Store_stepCommitting_91 : decode b_Store_stepCommitting 91 = .ok (.getfield 11, 3) := by decide +kernel
theorem d_Store_stepCommitting_94 : decode b_Store_stepCommitting 94 = .ok (.iload_n 3, 1) := by decide +kernel
theorem d_Store_stepCommitting_95 : decode b_Store_stepCommitting 95 = .ok (.aaload, 1) := by decide +kernel
theorem d_Store_stepCommitting_96 : decode b_Store_stepCommitting 96 = .ok (.invokevirtual 66, 3) := by decide +kernel
theorem d_Store_stepCommitting_99 : decode b_Store_stepCommitting 99 = .ok (.if_icmp .ge 19, 3) := by decide +kernel
theorem d_Store_stepCommitting_102 : decode b_Store_stepCommitting 102 = .ok (.aload_n 2, 1) := by decide +kernel
theorem d_Store_stepCommitting_103 : decode b_Store_stepCommitting 103 = .ok (.iconst 3, 1) := by decide +kernel
theorem d_Store_stepCommitting_104 : decode b_Store_stepCommitting 104 = .ok (.putfield 128, 3) := by decide +kernel
theorem d_Store_stepCommitting_107 : decode b_Store_stepCommitting 107 = .ok (.aload_n 2, 1) := by decide +kernel
theorem d_Store_stepCommitting_108 : decode b_Store_stepCommitting 108 = .ok (.aload 4, 2) := by decide +kernel
theorem d_Store_stepCommitting_110 : decode b_Store_stepCommitting 110 = .ok (.iconst 2, 1) := by decide +kernel
theorem d_Store_stepCommitting_111 : decode b_Store_stepCommitting 111 = .ok (.iload_n 1, 1) := by decide +kernel
theorem d_Store_stepCommitting_112 : decode b_Store_stepCommitting 112 = .ok (.invokevirtual 267, 3) := by decide +kernel
theorem d_Store_stepCommitting_115 : decode b_Store_stepCommitting 115 = .ok (.putfield 191, 3) := by decide +kernel
theorem d_Store_stepCommitting_118 : decode b_Store_stepCommitting 118 = .ok (.aload_n 2, 1) := by decide +kernel
theorem d_Store_stepCommitting_119 : decode b_Store_stepCommitting 119 = .ok (.getfield 128, 3) := by decide +kernel
theorem d_Store_stepCommitting_122 : decode b_Store_stepCommitting 122 = .ok (.ireturn, 1) := by decide +kernel
def B_Store_stepCommitting_118 (R : Nat → Nat → Nat) (a2 : Nat) (I : St) : Option (Int32 × St) := some ((I a2 3), I)
set_option maxHeartbeats 4000000 in
set_option maxRecDepth 100000 in
theorem b_Store_stepCommitting_118 {p : Program} {l : Launch} {e : Env} {s : State} {m : MethodId} {args : Array Value} {below : List Frame} {meth : Method} {c : Code} {g : Sg} {R : Nat → Nat → Nat} {J : St} {v : Int32} (cx : Cx p s m args meth c g R R_Store b_Store_stepCommitting 5 (some .int)) : ∀ (a2 : Nat) (I : St) (H : Heap) (locs : List Loc) (ls : Array Slot), okA g 3 0 a2 → B_Store_stepCommitting_118 R a2 I = some (v, J) → wW g R I H → va_S (· ∈ g.L) s.heap H locs → lv_has ls 5 [(2, .ref a2)] → W p l e { frames := 4, cells := 0, slots := 0, locals := 85 } s m args below meth c H locs 0 0 (MQ below (Qi g R v J) args s 0 0 (· ∈ g.L)) (F0 m 118 ls []) := by
  have ⟨hx, hb, hml, hr, hlk, hown, hall, hT, hK⟩ := cx
  intro a2 I H locs ls o2 h hP hS hl
  unfold B_Store_stepCommitting_118 at h
  refine lv_aload_n hx hb d_Store_stepCommitting_118 rfl (lv_at hl 0 rfl) ?_
  refine gg_get (C := R_Txn) (T := F_Txn) (N := 5) (ci := 3) hx hb hall i_Txn hown hK hP o2.1 (wE_3 o2.2) rfl 3 (by decide) (hall _ m_229) (fun _ h9 => h9) rfl d_Store_stepCommitting_119 ?_
  obtain ⟨rfl, rfl⟩ := rt_el h
  exact gg_iret hx hb hr hlk hK hP hS d_Store_stepCommitting_122
def B_Store_stepCommitting_67 (R : Nat → Nat → Nat) (a2 : Nat) (u0 : Nat) (t1 : Int32) (I : St) : Option (Int32 × St) := (ap (up2 I u0 3 t1) (fun I67 => B_Store_stepCommitting_118 R a2 I67))
set_option maxHeartbeats 4000000 in
set_option maxRecDepth 100000 in
theorem b_Store_stepCommitting_67 {p : Program} {l : Launch} {e : Env} {s : State} {m : MethodId} {args : Array Value} {below : List Frame} {meth : Method} {c : Code} {g : Sg} {R : Nat → Nat → Nat} {J : St} {v : Int32} (cx : Cx p s m args meth c g R R_Store b_Store_stepCommitting 5 (some .int)) : ∀ (a2 : Nat) (u0 : Nat) (t1 : Int32) (I : St) (H : Heap) (locs : List Loc) (ls : Array Slot), okA g 3 0 a2 → okA g 3 0 u0 → B_Store_stepCommitting_67 R a2 u0 t1 I = some (v, J) → wW g R I H → va_S (· ∈ g.L) s.heap H locs → lv_has ls 5 [(2, .ref a2)] → W p l e { frames := 4, cells := 0, slots := 0, locals := 85 } s m args below meth c H locs 0 0 (MQ below (Qi g R v J) args s 0 0 (· ∈ g.L)) (F0 m 67 ls [.int t1, .ref u0]) := by
  have ⟨hx, hb, hml, hr, hlk, hown, hall, hT, hK⟩ := cx
  intro a2 u0 t1 I H locs ls o2 q0 h hP hS hl
  unfold B_Store_stepCommitting_67 at h
  refine gg_put (C := R_Txn) (T := F_Txn) (N := 5) (ci := 3) (ty := .int) hx hb hall i_Txn t_Txn t_Txn_ok n_Txn hown hT.1 hK hP hS q0.1 (wE_3 q0.2) rfl 3 (by decide) (hall _ m_229) (fun _ h9 => h9) rfl (by decide +kernel) rfl rfl (Nat.le_of_ble_eq_true rfl) (ws_Txn_3 q0.2) d_Store_stepCommitting_67 (fun I67 H locs e67 hP hS => ?_)
  replace h := ap_el e67 h
  refine lv_goto hx hb d_Store_stepCommitting_70 rfl ?_
  exact b_Store_stepCommitting_118 cx _ _ _ _ _ o2 h hP hS (lv_sub hl [0] rfl)
def B_Store_stepCommitting_21 (R : Nat → Nat → Nat) (a0 : Nat) (x1 : Int32) (a2 : Nat) (u0 : Nat) (t1 : Int32) (I : St) : Option (Int32 × St) := (ob (F_Store_readyNode R u0 t1 I) (fun v21 => (if v21 = (-1 : Int32) then some ((-3 : Int32), I) else (chk v21 6 ((ob (F_Log_has R (R (R (R a0 1) v21.toNatClampNeg) 2) (2 : Int32) x1 I) (fun v48 => (if v48 = 0 then (ob (F_Txn_usesBothGroups R a2 I) (fun v56 => (if v56 = 0 then B_Store_stepCommitting_67 R a2 a2 (4 : Int32) I else B_Store_stepCommitting_67 R a2 a2 (1 : Int32) I))) else (ob (F_Log_knows R (R (R (R a0 1) v21.toNatClampNeg) 2) (2 : Int32) x1 I) (fun v77 => (if v77 = 0 then B_Store_stepCommitting_118 R a2 I else (ob (F_Log_stampOf R (R (R (R a0 1) v21.toNatClampNeg) 2) (2 : Int32) x1 I) (fun v87 => (chk v21 6 ((ob (F_Node_earliest R (R (R a0 1) v21.toNatClampNeg) I) (fun v96 => (if v96 ≤ v87 then B_Store_stepCommitting_118 R a2 I else (ap (up2 I a2 3 (3 : Int32)) (fun I104 => (ob (F_Log_stampOf R (R (R (R a0 1) v21.toNatClampNeg) 2) (2 : Int32) x1 I104) (fun v112 => (ap (up2 I104 a2 4 v112) (fun I115 => B_Store_stepCommitting_118 R a2 I115))))))))))))))))))))))))
set_option maxHeartbeats 4000000 in
set_option maxRecDepth 100000 in
theorem b_Store_stepCommitting_21 {p : Program} {l : Launch} {e : Env} {s : State} {m : MethodId} {args : Array Value} {below : List Frame} {meth : Method} {c : Code} {g : Sg} {R : Nat → Nat → Nat} {J : St} {v : Int32} (cx : Cx p s m args meth c g R R_Store b_Store_stepCommitting 5 (some .int)) : ∀ (a0 : Nat) (x1 : Int32) (a2 : Nat) (u0 : Nat) (t1 : Int32) (I : St) (H : Heap) (locs : List Loc) (ls : Array Slot), okA g 4 0 a0 → okA g 3 0 a2 → okA g 4 0 u0 → B_Store_stepCommitting_21 R a0 x1 a2 u0 t1 I = some (v, J) → wW g R I H → va_S (· ∈ g.L) s.heap H locs → lv_has ls 5 [(0, .ref a0), (1, .int x1), (2, .ref a2)] → W p l e { frames := 4, cells := 0, slots := 0, locals := 85 } s m args below meth c H locs 0 0 (MQ below (Qi g R v J) args s 0 0 (· ∈ g.L)) (F0 m 21 ls [.int t1, .ref u0]) := by
  have ⟨hx, hb, hml, hr, hlk, hown, hall, hT, hK⟩ := cx
  intro a0 x1 a2 u0 t1 I H locs ls o0 o2 q0 h hP hS hl
  unfold B_Store_stepCommitting_21 at h
  obtain ⟨v21, e21, h⟩ := ob_el h
  refine gg_Vi (As := [.int t1]) (rest := []) (ci := 4) (C := R_Store) (T := F_Store) (N := 4) ⟨hx, hb, hml, hown, hall⟩ (c_Store_readyNode l hT q0 e21) (cwV 1 hall (gV m_172 m_173 m_174 m_6 m_169) rfl rfl rfl (by decide +kernel) ⟨Nat.le_of_ble_eq_true rfl, Nat.le_of_ble_eq_true rfl⟩) hK hP hS q0.1 (wE_4 q0.2) rfl rfl hl.1 rfl (Nat.le_of_ble_eq_true rfl) d_Store_stepCommitting_21 (fun H locs hP hS => ?_)
  refine lv_istore_n (lv' := [(3, .int v21), (0, .ref a0), (1, .int x1), (2, .ref a2)]) hx hb d_Store_stepCommitting_24 rfl hl (Nat.le_of_ble_eq_true rfl) rfl (fun ls hl => ?_)
  refine lv_iload_n hx hb d_Store_stepCommitting_25 rfl (lv_at hl 0 rfl) ?_
  refine lv_iconst (v := (-1)) hx hb d_Store_stepCommitting_26 (by decide) ?_
  refine lv_icmp_ne hx hb d_Store_stepCommitting_27 rfl (fun hc => ?_) (fun hc => ?_)
  · replace h := i_neg hc h
    refine lv_aload_n hx hb d_Store_stepCommitting_33 rfl (lv_at hl 1 rfl) ?_
    refine gg_get (C := R_Store) (T := F_Store) (N := 4) (ci := 4) hx hb hall i_Store hown hK hP o0.1 (wE_4 o0.2) rfl 1 (by decide) (hall _ m_8) (fun _ h9 => h9) rfl d_Store_stepCommitting_34 ?_
    have o_34 : okA g 8 6 (R a0 1) := ty_Store_1 hT o0
    refine lv_iload_n hx hb d_Store_stepCommitting_37 rfl (lv_at hl 0 rfl) ?_
    obtain ⟨hi38, h⟩ := chk_el h
    refine gg_nald hx hb hK hP o_34 hi38 d_Store_stepCommitting_38 ?_
    have o_38 : okA g 2 0 (R (R a0 1) v21.toNatClampNeg) := ty_8 hT o_34 _
    refine gg_get (C := R_Node) (T := F_Node) (N := 10) (ci := 2) hx hb hall i_Node hown hK hP o_38.1 (wE_2 o_38.2) rfl 2 (by decide) (hall _ m_134) (fun _ h9 => h9) rfl d_Store_stepCommitting_39 ?_
    have o_39 : okA g 1 0 (R (R (R a0 1) v21.toNatClampNeg) 2) := ty_Node_2 hT o_38
    refine lv_astore (lv' := [(4, .ref (R (R (R a0 1) v21.toNatClampNeg) 2)), (3, .int v21), (0, .ref a0), (1, .int x1), (2, .ref a2)]) hx hb d_Store_stepCommitting_42 hl (Nat.le_of_ble_eq_true rfl) rfl (fun ls hl => ?_)
    refine lv_aload hx hb d_Store_stepCommitting_44 (lv_at hl 0 rfl) ?_
    refine lv_iconst (v := 2) hx hb d_Store_stepCommitting_46 (by decide) ?_
    refine lv_iload_n hx hb d_Store_stepCommitting_47 rfl (lv_at hl 3 rfl) ?_
    obtain ⟨v48, e48, h⟩ := ob_el h
    refine gg_Vi (As := [.int (2 : Int32), .int x1]) (rest := []) (ci := 1) (C := R_Log) (T := F_Log) (N := 7) ⟨hx, hb, hml, hown, hall⟩ (c_Log_has l hT o_39 e48) (cwV 2 hall (gV m_295 m_196 m_197 m_38 m_189) rfl rfl rfl (by decide +kernel) ⟨Nat.le_of_ble_eq_true rfl, Nat.le_of_ble_eq_true rfl⟩) hK hP hS o_39.1 (wE_1 o_39.2) rfl rfl hl.1 rfl (Nat.le_of_ble_eq_true rfl) d_Store_stepCommitting_48 (fun H locs hP hS => ?_)
    refine lv_if_ne hx hb d_Store_stepCommitting_51 rfl (fun hc => ?_) (fun hc => ?_)
    · replace h := i_neg hc h
      refine lv_aload hx hb d_Store_stepCommitting_73 (lv_at hl 0 rfl) ?_
      refine lv_iconst (v := 2) hx hb d_Store_stepCommitting_75 (by decide) ?_
      refine lv_iload_n hx hb d_Store_stepCommitting_76 rfl (lv_at hl 3 rfl) ?_
      obtain ⟨v77, e77, h⟩ := ob_el h
      refine gg_Vi (As := [.int (2 : Int32), .int x1]) (rest := []) (ci := 1) (C := R_Log) (T := F_Log) (N := 7) ⟨hx, hb, hml, hown, hall⟩ (c_Log_knows l hT o_39 e77) (cwV 2 hall (gV m_296 m_192 m_193 m_38 m_190) rfl rfl rfl (by decide +kernel) ⟨Nat.le_of_ble_eq_true rfl, Nat.le_of_ble_eq_true rfl⟩) hK hP hS o_39.1 (wE_1 o_39.2) rfl rfl hl.1 rfl (Nat.le_of_ble_eq_true rfl) d_Store_stepCommitting_77 (fun H locs hP hS => ?_)
      refine lv_if_eq hx hb d_Store_stepCommitting_80 rfl (fun hc => ?_) (fun hc => ?_)
      · replace h := i_pos hc h
        exact b_Store_stepCommitting_118 cx _ _ _ _ _ o2 h hP hS (lv_sub hl [4] rfl)
      · replace h := i_neg hc h
        refine lv_aload hx hb d_Store_stepCommitting_83 (lv_at hl 0 rfl) ?_
        refine lv_iconst (v := 2) hx hb d_Store_stepCommitting_85 (by decide) ?_
        refine lv_iload_n hx hb d_Store_stepCommitting_86 rfl (lv_at hl 3 rfl) ?_
        obtain ⟨v87, e87, h⟩ := ob_el h
        refine gg_Vi (As := [.int (2 : Int32), .int x1]) (rest := []) (ci := 1) (C := R_Log) (T := F_Log) (N := 7) ⟨hx, hb, hml, hown, hall⟩ (c_Log_stampOf l hT o_39 e87) (cwV 2 hall (gV m_297 m_298 m_299 m_38 m_294) rfl rfl rfl (by decide +kernel) ⟨Nat.le_of_ble_eq_true rfl, Nat.le_of_ble_eq_true rfl⟩) hK hP hS o_39.1 (wE_1 o_39.2) rfl rfl hl.1 rfl (Nat.le_of_ble_eq_true rfl) d_Store_stepCommitting_87 (fun H locs hP hS => ?_)
        refine lv_aload_n hx hb d_Store_stepCommitting_90 rfl (lv_at hl 2 rfl) ?_
        refine gg_get (C := R_Store) (T := F_Store) (N := 4) (ci := 4) hx hb hall i_Store hown hK hP o0.1 (wE_4 o0.2) rfl 1 (by decide) (hall _ m_8) (fun _ h9 => h9) rfl d_Store_stepCommitting_91 ?_
        have o_91 : okA g 8 6 (R a0 1) := ty_Store_1 hT o0
        refine lv_iload_n hx hb d_Store_stepCommitting_94 rfl (lv_at hl 1 rfl) ?_
        obtain ⟨hi95, h⟩ := chk_el h
        refine gg_nald hx hb hK hP o_91 hi95 d_Store_stepCommitting_95 ?_
        have o_95 : okA g 2 0 (R (R a0 1) v21.toNatClampNeg) := ty_8 hT o_91 _
        obtain ⟨v96, e96, h⟩ := ob_el h
        refine gg_Vi (As := []) (rest := [.int v87]) (ci := 2) (C := R_Node) (T := F_Node) (N := 10) ⟨hx, hb, hml, hown, hall⟩ (c_Node_earliest l hT o_95 e96) (cwV 0 hall (gV m_108 m_46 m_47 m_48 m_31) rfl rfl rfl (by decide +kernel) ⟨Nat.le_of_ble_eq_true rfl, Nat.le_of_ble_eq_true rfl⟩) hK hP hS o_95.1 (wE_2 o_95.2) rfl rfl hl.1 rfl (Nat.le_of_ble_eq_true rfl) d_Store_stepCommitting_96 (fun H locs hP hS => ?_)
        refine lv_icmp_ge hx hb d_Store_stepCommitting_99 rfl (fun hc => ?_) (fun hc => ?_)
        · replace h := i_pos hc h
          exact b_Store_stepCommitting_118 cx _ _ _ _ _ o2 h hP hS (lv_sub hl [4] rfl)
        · replace h := i_neg hc h
          refine lv_aload_n hx hb d_Store_stepCommitting_102 rfl (lv_at hl 4 rfl) ?_
          refine lv_iconst (v := 3) hx hb d_Store_stepCommitting_103 (by decide) ?_
          refine gg_put (C := R_Txn) (T := F_Txn) (N := 5) (ci := 3) (ty := .int) hx hb hall i_Txn t_Txn t_Txn_ok n_Txn hown hT.1 hK hP hS o2.1 (wE_3 o2.2) rfl 3 (by decide) (hall _ m_229) (fun _ h9 => h9) rfl (by decide +kernel) rfl rfl (Nat.le_of_ble_eq_true rfl) (ws_Txn_3 o2.2) d_Store_stepCommitting_104 (fun I104 H locs e104 hP hS => ?_)
          replace h := ap_el e104 h
          refine lv_aload_n hx hb d_Store_stepCommitting_107 rfl (lv_at hl 4 rfl) ?_
          refine lv_aload hx hb d_Store_stepCommitting_108 (lv_at hl 0 rfl) ?_
          refine lv_iconst (v := 2) hx hb d_Store_stepCommitting_110 (by decide) ?_
          refine lv_iload_n hx hb d_Store_stepCommitting_111 rfl (lv_at hl 3 rfl) ?_
          obtain ⟨v112, e112, h⟩ := ob_el h
          refine gg_Vi (As := [.int (2 : Int32), .int x1]) (rest := [.ref a2]) (ci := 1) (C := R_Log) (T := F_Log) (N := 7) ⟨hx, hb, hml, hown, hall⟩ (c_Log_stampOf l hT o_39 e112) (cwV 2 hall (gV m_297 m_298 m_299 m_38 m_294) rfl rfl rfl (by decide +kernel) ⟨Nat.le_of_ble_eq_true rfl, Nat.le_of_ble_eq_true rfl⟩) hK hP hS o_39.1 (wE_1 o_39.2) rfl rfl hl.1 rfl (Nat.le_of_ble_eq_true rfl) d_Store_stepCommitting_112 (fun H locs hP hS => ?_)
          refine gg_put (C := R_Txn) (T := F_Txn) (N := 5) (ci := 3) (ty := .int) hx hb hall i_Txn t_Txn t_Txn_ok n_Txn hown hT.1 hK hP hS o2.1 (wE_3 o2.2) rfl 4 (by decide) (hall _ m_301) (fun _ h9 => h9) rfl (by decide +kernel) rfl rfl (Nat.le_of_ble_eq_true rfl) (ws_Txn_4 o2.2) d_Store_stepCommitting_115 (fun I115 H locs e115 hP hS => ?_)
          replace h := ap_el e115 h
          exact b_Store_stepCommitting_118 cx _ _ _ _ _ o2 h hP hS (lv_sub hl [4] rfl)
    · replace h := i_pos hc h
      refine lv_aload_n hx hb d_Store_stepCommitting_54 rfl (lv_at hl 4 rfl) ?_
      refine lv_aload_n hx hb d_Store_stepCommitting_55 rfl (lv_at hl 4 rfl) ?_
      obtain ⟨v56, e56, h⟩ := ob_el h
      refine gg_Vi (As := []) (rest := [.ref a2]) (ci := 3) (C := R_Txn) (T := F_Txn) (N := 5) ⟨hx, hb, hml, hown, hall⟩ (c_Txn_usesBothGroups l hT o2 e56) (cwV 0 hall (gV m_272 m_273 m_274 m_180 m_271) rfl rfl rfl (by decide +kernel) ⟨Nat.le_of_ble_eq_true rfl, Nat.le_of_ble_eq_true rfl⟩) hK hP hS o2.1 (wE_3 o2.2) rfl rfl hl.1 rfl (Nat.le_of_ble_eq_true rfl) d_Store_stepCommitting_56 (fun H locs hP hS => ?_)
      refine lv_if_eq hx hb d_Store_stepCommitting_59 rfl (fun hc => ?_) (fun hc => ?_)
      · replace h := i_pos hc h
        refine lv_iconst (v := 4) hx hb d_Store_stepCommitting_66 (by decide) ?_
        exact b_Store_stepCommitting_67 cx _ _ _ _ _ _ _ o2 o2 h hP hS (lv_sub hl [4] rfl)
      · replace h := i_neg hc h
        refine lv_iconst (v := 1) hx hb d_Store_stepCommitting_62 (by decide) ?_
        refine lv_goto hx hb d_Store_stepCommitting_63 rfl ?_
        exact b_Store_stepCommitting_67 cx _ _ _ _ _ _ _ o2 o2 h hP hS (lv_sub hl [4] rfl)
  · replace h := i_pos hc h
    refine lv_bipush (v := (-3)) hx hb d_Store_stepCommitting_30 (by decide) ?_
    obtain ⟨rfl, rfl⟩ := rt_el h
    exact gg_iret hx hb hr hlk hK hP hS d_Store_stepCommitting_32
def F_Store_stepCommitting (R : Nat → Nat → Nat) (a0 : Nat) (x1 : Int32) (I : St) : Option (Int32 × St) := (chk x1 16 ((ob (F_Txn_usesGroup R (R (R a0 2) x1.toNatClampNeg) (0 : Int32) I) (fun v10 => (if v10 = 0 then B_Store_stepCommitting_21 R a0 x1 (R (R a0 2) x1.toNatClampNeg) a0 (1 : Int32) I else B_Store_stepCommitting_21 R a0 x1 (R (R a0 2) x1.toNatClampNeg) a0 (0 : Int32) I)))))
set_option maxHeartbeats 4000000 in
set_option maxRecDepth 100000 in
theorem c_Store_stepCommitting (l : Launch) {g : Sg} {R : Nat → Nat → Nat} (hT : Ty g R) {a0 : Nat} (o0 : okA g 4 0 a0) {x1 : Int32} {I : St} {J : St} {v : Int32} (h : F_Store_stepCommitting R a0 x1 I = some (v, J)) : Cti l g R y_Store_stepCommitting w_Store_stepCommitting 4 85 [.ref a0, .int x1] I v J := by
  unfold Cti
  refine Met.ofW (cc := b_Store_stepCommitting) (maxL := 5) (ret := (some .int)) (by decide) rfl ?_
  intro p e s m args below meth c s₁ B hml hv
  obtain ⟨rfl, hP, hK⟩ := hv
  have hts := atoms_spec (ws := w_Store_stepCommitting) B.pre
  have hall : ∀ w ∈ w_all, w.before _ s = true := fun w hw => hts w (List.mem_cons_of_mem _ hw)
  have hown : s.vm.findClass R_Store = some m.cls := findClass_of_methodNamed B.named
  have hx := B.exec
  have hb := B.bytes
  have hr := B.returns
  have hlk := B.notSynchronized
  have cx : Cx p s m _ meth c g R R_Store b_Store_stepCommitting 5 (some .int) := ⟨hx, hb, hml, hr, hlk, hown, hall, hT, hK⟩
  have hl := lv_entry ([.ref a0, .int x1]) (n := 5) (Nat.le_of_ble_eq_true rfl)
  rw [lg_entry_eq]
  generalize (lg_sl ([.ref a0, .int x1]) ++ List.replicate (5 - (lg_sl ([.ref a0, .int x1])).length) Slot.unset).toArray = ls at hl ⊢
  have hl : lv_has ls 5 [(0, .ref a0), (1, .int x1)] := hl
  have hS : va_S (· ∈ g.L) s.heap s.heap [] := va_S.rf
  unfold F_Store_stepCommitting at h
  refine lv_aload_n hx hb d_Store_stepCommitting_0 rfl (lv_at hl 0 rfl) ?_
  refine gg_get (C := R_Store) (T := F_Store) (N := 4) (ci := 4) hx hb hall i_Store hown hK hP o0.1 (wE_4 o0.2) rfl 2 (by decide) (hall _ m_202) (fun _ h9 => h9) rfl d_Store_stepCommitting_1 ?_
  have o_1 : okA g 9 16 (R a0 2) := ty_Store_2 hT o0
  refine lv_iload_n hx hb d_Store_stepCommitting_4 rfl (lv_at hl 1 rfl) ?_
  obtain ⟨hi5, h⟩ := chk_el h
  refine gg_tald hx hb hK hP o_1 hi5 d_Store_stepCommitting_5 ?_
  have o_5 : okA g 3 0 (R (R a0 2) x1.toNatClampNeg) := ty_9 hT o_1 _
  refine lv_astore_n (lv' := [(2, .ref (R (R a0 2) x1.toNatClampNeg)), (0, .ref a0), (1, .int x1)]) hx hb d_Store_stepCommitting_6 rfl hl (Nat.le_of_ble_eq_true rfl) rfl (fun ls hl => ?_)
  refine lv_aload_n hx hb d_Store_stepCommitting_7 rfl (lv_at hl 1 rfl) ?_
  refine lv_aload_n hx hb d_Store_stepCommitting_8 rfl (lv_at hl 0 rfl) ?_
  refine lv_iconst (v := 0) hx hb d_Store_stepCommitting_9 (by decide) ?_
  obtain ⟨v10, e10, h⟩ := ob_el h
  refine gg_Vi (As := [.int (0 : Int32)]) (rest := [.ref a0]) (ci := 3) (C := R_Txn) (T := F_Txn) (N := 5) ⟨hx, hb, hml, hown, hall⟩ (c_Txn_usesGroup l hT o_5 e10) (cwV 1 hall (gV m_252 m_253 m_254 m_180 m_251) rfl rfl rfl (by decide +kernel) ⟨Nat.le_of_ble_eq_true rfl, Nat.le_of_ble_eq_true rfl⟩) hK hP hS o_5.1 (wE_3 o_5.2) rfl rfl hl.1 rfl (Nat.le_of_ble_eq_true rfl) d_Store_stepCommitting_10 (fun H locs hP hS => ?_)
  refine lv_if_eq hx hb d_Store_stepCommitting_13 rfl (fun hc => ?_) (fun hc => ?_)
  · replace h := i_pos hc h
    refine lv_iconst (v := 1) hx hb d_Store_stepCommitting_20 (by decide) ?_
    exact b_Store_stepCommitting_21 cx _ _ _ _ _ _ _ _ _ o0 o_5 o0 h hP hS (lv_sub hl [1, 2, 0] rfl)
  · replace h := i_neg hc h
    refine lv_iconst (v := 0) hx hb d_Store_stepCommitting_16 (by decide) ?_
    refine lv_goto hx hb d_Store_stepCommitting_17 rfl ?_
    exact b_Store_stepCommitting_21 cx _ _ _ _ _ _ _ _ _ o0 o_5 o0 h hP hS (lv_sub hl [1, 2, 0] rfl)
abbrev b_Store_writeOutcome : ByteArray := prog_1_method_45_code
def y_Store_writeOutcome : MethodName := ⟨"StampedStore", "writeOutcome", "(II)V"⟩
def w_Store_writeOutcome : List Cond := .code y_Store_writeOutcome b_Store_writeOutcome 6 none :: w_all
theorem d_Store_writeOutcome_0 : decode b_Store_writeOutcome 0 = .ok (.aload_n 0, 1) := by decide +kernel
theorem d_Store_writeOutcome_1 : decode b_Store_writeOutcome 1 = .ok (.iload_n 2, 1) := by decide +kernel
theorem d_Store_writeOutcome_2 : decode b_Store_writeOutcome 2 = .ok (.invokevirtual 141, 3) := by decide +kernel
theorem d_Store_writeOutcome_5 : decode b_Store_writeOutcome 5 = .ok (.istore_n 3, 1) := by decide +kernel
theorem d_Store_writeOutcome_6 : decode b_Store_writeOutcome 6 = .ok (.iload_n 3, 1) := by decide +kernel
theorem d_Store_writeOutcome_7 : decode b_Store_writeOutcome 7 = .ok (.iconst (-1), 1) := by decide +kernel
theorem d_Store_writeOutcome_8 : decode b_Store_writeOutcome 8 = .ok (.if_icmp .ne 4, 3) := by decide +kernel
theorem d_Store_writeOutcome_11 : decode b_Store_writeOutcome 11 = .ok (.return_, 1) := by decide +kernel
theorem d_Store_writeOutcome_12 : decode b_Store_writeOutcome 12 = .ok (.aload_n 0, 1) := by decide +kernel
theorem d_Store_writeOutcome_13 : decode b_Store_writeOutcome 13 = .ok (.getfield 11, 3) := by decide +kernel
theorem d_Store_writeOutcome_16 : decode b_Store_writeOutcome 16 = .ok (.iload_n 3, 1) := by decide +kernel
theorem d_Store_writeOutcome_17 : decode b_Store_writeOutcome 17 = .ok (.aaload, 1) := by decide +kernel
theorem d_Store_writeOutcome_18 : decode b_Store_writeOutcome 18 = .ok (.getfield 97, 3) := by decide +kernel
theorem d_Store_writeOutcome_21 : decode b_Store_writeOutcome 21 = .ok (.astore 4, 2) := by decide +kernel
theorem d_Store_writeOutcome_23 : decode b_Store_writeOutcome 23 = .ok (.aload 4, 2) := by decide +kernel
theorem d_Store_writeOutcome_25 : decode b_Store_writeOutcome 25 = .ok (.iconst 1, 1) := by decide +kernel
theorem d_Store_writeOutcome_26 : decode b_Store_writeOutcome 26 = .ok (.iload_n 1, 1) := by decide +kernel
theorem d_Store_writeOutcome_27 : decode b_Store_writeOutcome 27 = .ok (.invokevirtual 260, 3) := by decide +kernel
theorem d_Store_writeOutcome_30 : decode b_Store_writeOutcome 30 = .ok (.ifCond .eq 62, 3) := by decide +kernel
theorem d_Store_writeOutcome_33 : decode b_Store_writeOutcome 33 = .ok (.aload 4, 2) := by decide +kernel
theorem d_Store_writeOutcome_35 : decode b_Store_writeOutcome 35 = .ok (.iconst 2, 1) := by decide +kernel
theorem d_Store_writeOutcome_36 : decode b_Store_writeOutcome 36 = .ok (.iload_n 1, 1) := by decide +kernel
theorem d_Store_writeOutcome_37 : decode b_Store_writeOutcome 37 = .ok (.invokevirtual 260, 3) := by decide +kernel
theorem d_Store_writeOutcome_40 : decode b_Store_writeOutcome 40 = .ok (.ifCond .ne 52, 3) := by decide +kernel
theorem d_Store_writeOutcome_43 : decode b_Store_writeOutcome 43 = .ok (.aload 4, 2) := by decide +kernel
theorem d_Store_writeOutcome_45 : decode b_Store_writeOutcome 45 = .ok (.iconst 3, 1) := by decide +kernel
theorem d_Store_writeOutcome_46 : decode b_Store_writeOutcome 46 = .ok (.iload_n 1, 1) := by decide +kernel
theorem d_Store_writeOutcome_47 : decode b_Store_writeOutcome 47 = .ok (.invokevirtual 260, 3) := by decide +kernel
theorem d_Store_writeOutcome_50 : decode b_Store_writeOutcome 50 = .ok (.ifCond .ne 42, 3) := by decide +kernel
theorem d_Store_writeOutcome_53 : decode b_Store_writeOutcome 53 = .ok (.aload_n 0, 1) := by decide +kernel
theorem d_Store_writeOutcome_54 : decode b_Store_writeOutcome 54 = .ok (.getfield 17, 3) := by decide +kernel
theorem d_Store_writeOutcome_57 : decode b_Store_writeOutcome 57 = .ok (.iload_n 1, 1) := by decide +kernel
theorem d_Store_writeOutcome_58 : decode b_Store_writeOutcome 58 = .ok (.aaload, 1) := by decide +kernel
theorem d_Store_writeOutcome_59 : decode b_Store_writeOutcome 59 = .ok (.astore 5, 2) := by decide +kernel
theorem d_Store_writeOutcome_61 : decode b_Store_writeOutcome 61 = .ok (.aload_n 0, 1) := by decide +kernel
theorem d_Store_writeOutcome_62 : decode b_Store_writeOutcome 62 = .ok (.getfield 11, 3) := by decide +kernel
theorem d_Store_writeOutcome_65 : decode b_Store_writeOutcome 65 = .ok (.iload_n 3, 1) := by decide +kernel
theorem d_Store_writeOutcome_66 : decode b_Store_writeOutcome 66 = .ok (.aaload, 1) := by decide +kernel
theorem d_Store_writeOutcome_67 : decode b_Store_writeOutcome 67 = .ok (.iconst 3, 1) := by decide +kernel
theorem d_Store_writeOutcome_68 : decode b_Store_writeOutcome 68 = .ok (.iload_n 1, 1) := by decide +kernel
theorem d_Store_writeOutcome_69 : decode b_Store_writeOutcome 69 = .ok (.aload 5, 2) := by decide +kernel
theorem d_Store_writeOutcome_71 : decode b_Store_writeOutcome 71 = .ok (.getfield 128, 3) := by decide +kernel
theorem d_Store_writeOutcome_74 : decode b_Store_writeOutcome 74 = .ok (.iconst 3, 1) := by decide +kernel
theorem d_Store_writeOutcome_75 : decode b_Store_writeOutcome 75 = .ok (.if_icmp .ne 11, 3) := by decide +kernel
theorem d_Store_writeOutcome_78 : decode b_Store_writeOutcome 78 = .ok (.aload 5, 2) := by decide +kernel
theorem d_Store_writeOutcome_80 : decode b_Store_writeOutcome 80 = .ok (.getfield 191, 3) := by decide +kernel
theorem d_Store_writeOutcome_83 : decode b_Store_writeOutcome 83 = .ok (.goto 4, 3) := by decide +kernel
theorem d_Store_writeOutcome_86 : decode b_Store_writeOutcome 86 = .ok (.iconst (-1), 1) := by decide +kernel
theorem d_Store_writeOutcome_87 : decode b_Store_writeOutcome 87 = .ok (.iconst 0, 1) := by decide +kernel
theorem d_Store_writeOutcome_88 : decode b_Store_writeOutcome 88 = .ok (.invokevirtual 72, 3) := by decide +kernel
theorem d_Store_writeOutcome_91 : decode b_Store_writeOutcome 91 = .ok (.pop, 1) := by decide +kernel
theorem d_Store_writeOutcome_92 : decode b_Store_writeOutcome 92 = .ok (.return_, 1) := by decide +kernel
def B_Store_writeOutcome_87 (R : Nat → Nat → Nat) (u0 : Nat) (t1 : Int32) (t2 : Int32) (t3 : Int32) (I : St) : Option St := (ob2 (F_Node_put R u0 t1 t2 t3 (0 : Int32) I) (fun v88 I88 => some I88))
set_option maxHeartbeats 4000000 in
set_option maxRecDepth 100000 in
theorem b_Store_writeOutcome_87 {p : Program} {l : Launch} {e : Env} {s : State} {m : MethodId} {args : Array Value} {below : List Frame} {meth : Method} {c : Code} {g : Sg} {R : Nat → Nat → Nat} {J : St} (cx : Cx p s m args meth c g R R_Store b_Store_writeOutcome 6 none) : ∀ (u0 : Nat) (t1 : Int32) (t2 : Int32) (t3 : Int32) (I : St) (H : Heap) (locs : List Loc) (ls : Array Slot), okA g 2 0 u0 → B_Store_writeOutcome_87 R u0 t1 t2 t3 I = some J → wW g R I H → va_S (· ∈ g.L) s.heap H locs → lv_has ls 6 [] → W p l e { frames := 4, cells := 0, slots := 0, locals := 90 } s m args below meth c H locs 0 0 (MQ below (Qu g R J) args s 0 0 (· ∈ g.L)) (F0 m 87 ls [.int t3, .int t2, .int t1, .ref u0]) := by
  have ⟨hx, hb, hml, hr, hlk, hown, hall, hT, hK⟩ := cx
  intro u0 t1 t2 t3 I H locs ls q0 h hP hS hl
  unfold B_Store_writeOutcome_87 at h
  refine lv_iconst (v := 0) hx hb d_Store_writeOutcome_87 (by decide) ?_
  obtain ⟨v88, I88, e88, h⟩ := ob2_el h
  refine gg_Vi (As := [.int t1, .int t2, .int t3, .int (0 : Int32)]) (rest := []) (ci := 2) (C := R_Node) (T := F_Node) (N := 10) ⟨hx, hb, hml, hown, hall⟩ (c_Node_put l hT q0 e88) (cwV 4 hall (gV m_110 m_111 m_112 m_48 m_100) rfl rfl rfl (by decide +kernel) ⟨Nat.le_of_ble_eq_true rfl, Nat.le_of_ble_eq_true rfl⟩) hK hP hS q0.1 (wE_2 q0.2) rfl rfl hl.1 rfl (Nat.le_of_ble_eq_true rfl) d_Store_writeOutcome_88 (fun H locs hP hS => ?_)
  refine lv_pop hx hb d_Store_writeOutcome_91 rfl ?_
  obtain rfl := Option.some.inj h
  exact gg_vret hx hb hr hlk hK hP hS d_Store_writeOutcome_92
def F_Store_writeOutcome (R : Nat → Nat → Nat) (a0 : Nat) (x1 : Int32) (x2 : Int32) (I : St) : Option St := (ob (F_Store_readyNode R a0 x2 I) (fun v2 => (if v2 = (-1 : Int32) then some I else (chk v2 6 ((ob (F_Log_has R (R (R (R a0 1) v2.toNatClampNeg) 2) (1 : Int32) x1 I) (fun v27 => (if v27 = 0 then some I else (ob (F_Log_has R (R (R (R a0 1) v2.toNatClampNeg) 2) (2 : Int32) x1 I) (fun v37 => (if v37 = 0 then (ob (F_Log_has R (R (R (R a0 1) v2.toNatClampNeg) 2) (3 : Int32) x1 I) (fun v47 => (if v47 = 0 then (chk x1 16 ((chk v2 6 ((if (I (R (R a0 2) x1.toNatClampNeg) 3) = (3 : Int32) then B_Store_writeOutcome_87 R (R (R a0 1) v2.toNatClampNeg) (3 : Int32) x1 (I (R (R a0 2) x1.toNatClampNeg) 4) I else B_Store_writeOutcome_87 R (R (R a0 1) v2.toNatClampNeg) (3 : Int32) x1 (-1 : Int32) I))))) else some I))) else some I)))))))))))
set_option maxHeartbeats 4000000 in
set_option maxRecDepth 100000 in
theorem c_Store_writeOutcome (l : Launch) {g : Sg} {R : Nat → Nat → Nat} (hT : Ty g R) {a0 : Nat} (o0 : okA g 4 0 a0) {x1 : Int32} {x2 : Int32} {I : St} {J : St} (h : F_Store_writeOutcome R a0 x1 x2 I = some J) : Ctv l g R y_Store_writeOutcome w_Store_writeOutcome 4 90 [.ref a0, .int x1, .int x2] I J := by
  unfold Ctv
  refine Met.ofW (cc := b_Store_writeOutcome) (maxL := 6) (ret := none) (by decide) rfl ?_
  intro p e s m args below meth c s₁ B hml hv
  obtain ⟨rfl, hP, hK⟩ := hv
  have hts := atoms_spec (ws := w_Store_writeOutcome) B.pre
  have hall : ∀ w ∈ w_all, w.before _ s = true := fun w hw => hts w (List.mem_cons_of_mem _ hw)
  have hown : s.vm.findClass R_Store = some m.cls := findClass_of_methodNamed B.named
  have hx := B.exec
  have hb := B.bytes
  have hr := B.returns
  have hlk := B.notSynchronized
  have cx : Cx p s m _ meth c g R R_Store b_Store_writeOutcome 6 none := ⟨hx, hb, hml, hr, hlk, hown, hall, hT, hK⟩
  have hl := lv_entry ([.ref a0, .int x1, .int x2]) (n := 6) (Nat.le_of_ble_eq_true rfl)
  rw [lg_entry_eq]
  generalize (lg_sl ([.ref a0, .int x1, .int x2]) ++ List.replicate (6 - (lg_sl ([.ref a0, .int x1, .int x2])).length) Slot.unset).toArray = ls at hl ⊢
  have hl : lv_has ls 6 [(0, .ref a0), (1, .int x1), (2, .int x2)] := hl
  have hS : va_S (· ∈ g.L) s.heap s.heap [] := va_S.rf
  unfold F_Store_writeOutcome at h
  refine lv_aload_n hx hb d_Store_writeOutcome_0 rfl (lv_at hl 0 rfl) ?_
  refine lv_iload_n hx hb d_Store_writeOutcome_1 rfl (lv_at hl 2 rfl) ?_
  obtain ⟨v2, e2, h⟩ := ob_el h
  refine gg_Vi (As := [.int x2]) (rest := []) (ci := 4) (C := R_Store) (T := F_Store) (N := 4) ⟨hx, hb, hml, hown, hall⟩ (c_Store_readyNode l hT o0 e2) (cwV 1 hall (gV m_172 m_173 m_174 m_6 m_169) rfl rfl rfl (by decide +kernel) ⟨Nat.le_of_ble_eq_true rfl, Nat.le_of_ble_eq_true rfl⟩) hK hP hS o0.1 (wE_4 o0.2) rfl rfl hl.1 rfl (Nat.le_of_ble_eq_true rfl) d_Store_writeOutcome_2 (fun H locs hP hS => ?_)
  refine lv_istore_n (lv' := [(3, .int v2), (0, .ref a0), (1, .int x1), (2, .int x2)]) hx hb d_Store_writeOutcome_5 rfl hl (Nat.le_of_ble_eq_true rfl) rfl (fun ls hl => ?_)
  refine lv_iload_n hx hb d_Store_writeOutcome_6 rfl (lv_at hl 0 rfl) ?_
  refine lv_iconst (v := (-1)) hx hb d_Store_writeOutcome_7 (by decide) ?_
  refine lv_icmp_ne hx hb d_Store_writeOutcome_8 rfl (fun hc => ?_) (fun hc => ?_)
  · replace h := i_neg hc h
    refine lv_aload_n hx hb d_Store_writeOutcome_12 rfl (lv_at hl 1 rfl) ?_
    refine gg_get (C := R_Store) (T := F_Store) (N := 4) (ci := 4) hx hb hall i_Store hown hK hP o0.1 (wE_4 o0.2) rfl 1 (by decide) (hall _ m_8) (fun _ h9 => h9) rfl d_Store_writeOutcome_13 ?_
    have o_13 : okA g 8 6 (R a0 1) := ty_Store_1 hT o0
    refine lv_iload_n hx hb d_Store_writeOutcome_16 rfl (lv_at hl 0 rfl) ?_
    obtain ⟨hi17, h⟩ := chk_el h
    refine gg_nald hx hb hK hP o_13 hi17 d_Store_writeOutcome_17 ?_
    have o_17 : okA g 2 0 (R (R a0 1) v2.toNatClampNeg) := ty_8 hT o_13 _
    refine gg_get (C := R_Node) (T := F_Node) (N := 10) (ci := 2) hx hb hall i_Node hown hK hP o_17.1 (wE_2 o_17.2) rfl 2 (by decide) (hall _ m_134) (fun _ h9 => h9) rfl d_Store_writeOutcome_18 ?_
    have o_18 : okA g 1 0 (R (R (R a0 1) v2.toNatClampNeg) 2) := ty_Node_2 hT o_17
    refine lv_astore (lv' := [(4, .ref (R (R (R a0 1) v2.toNatClampNeg) 2)), (3, .int v2), (0, .ref a0), (1, .int x1), (2, .int x2)]) hx hb d_Store_writeOutcome_21 hl (Nat.le_of_ble_eq_true rfl) rfl (fun ls hl => ?_)
    refine lv_aload hx hb d_Store_writeOutcome_23 (lv_at hl 0 rfl) ?_
    refine lv_iconst (v := 1) hx hb d_Store_writeOutcome_25 (by decide) ?_
    refine lv_iload_n hx hb d_Store_writeOutcome_26 rfl (lv_at hl 3 rfl) ?_
    obtain ⟨v27, e27, h⟩ := ob_el h
    refine gg_Vi (As := [.int (1 : Int32), .int x1]) (rest := []) (ci := 1) (C := R_Log) (T := F_Log) (N := 7) ⟨hx, hb, hml, hown, hall⟩ (c_Log_has l hT o_18 e27) (cwV 2 hall (gV m_295 m_196 m_197 m_38 m_189) rfl rfl rfl (by decide +kernel) ⟨Nat.le_of_ble_eq_true rfl, Nat.le_of_ble_eq_true rfl⟩) hK hP hS o_18.1 (wE_1 o_18.2) rfl rfl hl.1 rfl (Nat.le_of_ble_eq_true rfl) d_Store_writeOutcome_27 (fun H locs hP hS => ?_)
    refine lv_if_eq hx hb d_Store_writeOutcome_30 rfl (fun hc => ?_) (fun hc => ?_)
    · replace h := i_pos hc h
      obtain rfl := Option.some.inj h
      exact gg_vret hx hb hr hlk hK hP hS d_Store_writeOutcome_92
    · replace h := i_neg hc h
      refine lv_aload hx hb d_Store_writeOutcome_33 (lv_at hl 0 rfl) ?_
      refine lv_iconst (v := 2) hx hb d_Store_writeOutcome_35 (by decide) ?_
      refine lv_iload_n hx hb d_Store_writeOutcome_36 rfl (lv_at hl 3 rfl) ?_
      obtain ⟨v37, e37, h⟩ := ob_el h
      refine gg_Vi (As := [.int (2 : Int32), .int x1]) (rest := []) (ci := 1) (C := R_Log) (T := F_Log) (N := 7) ⟨hx, hb, hml, hown, hall⟩ (c_Log_has l hT o_18 e37) (cwV 2 hall (gV m_295 m_196 m_197 m_38 m_189) rfl rfl rfl (by decide +kernel) ⟨Nat.le_of_ble_eq_true rfl, Nat.le_of_ble_eq_true rfl⟩) hK hP hS o_18.1 (wE_1 o_18.2) rfl rfl hl.1 rfl (Nat.le_of_ble_eq_true rfl) d_Store_writeOutcome_37 (fun H locs hP hS => ?_)
      refine lv_if_ne hx hb d_Store_writeOutcome_40 rfl (fun hc => ?_) (fun hc => ?_)
      · replace h := i_neg hc h
        obtain rfl := Option.some.inj h
        exact gg_vret hx hb hr hlk hK hP hS d_Store_writeOutcome_92
      · replace h := i_pos hc h
        refine lv_aload hx hb d_Store_writeOutcome_43 (lv_at hl 0 rfl) ?_
        refine lv_iconst (v := 3) hx hb d_Store_writeOutcome_45 (by decide) ?_
        refine lv_iload_n hx hb d_Store_writeOutcome_46 rfl (lv_at hl 3 rfl) ?_
        obtain ⟨v47, e47, h⟩ := ob_el h
        refine gg_Vi (As := [.int (3 : Int32), .int x1]) (rest := []) (ci := 1) (C := R_Log) (T := F_Log) (N := 7) ⟨hx, hb, hml, hown, hall⟩ (c_Log_has l hT o_18 e47) (cwV 2 hall (gV m_295 m_196 m_197 m_38 m_189) rfl rfl rfl (by decide +kernel) ⟨Nat.le_of_ble_eq_true rfl, Nat.le_of_ble_eq_true rfl⟩) hK hP hS o_18.1 (wE_1 o_18.2) rfl rfl hl.1 rfl (Nat.le_of_ble_eq_true rfl) d_Store_writeOutcome_47 (fun H locs hP hS => ?_)
        refine lv_if_ne hx hb d_Store_writeOutcome_50 rfl (fun hc => ?_) (fun hc => ?_)
        · replace h := i_neg hc h
          obtain rfl := Option.some.inj h
          exact gg_vret hx hb hr hlk hK hP hS d_Store_writeOutcome_92
        · replace h := i_pos hc h
          refine lv_aload_n hx hb d_Store_writeOutcome_53 rfl (lv_at hl 2 rfl) ?_
          refine gg_get (C := R_Store) (T := F_Store) (N := 4) (ci := 4) hx hb hall i_Store hown hK hP o0.1 (wE_4 o0.2) rfl 2 (by decide) (hall _ m_202) (fun _ h9 => h9) rfl d_Store_writeOutcome_54 ?_
          have o_54 : okA g 9 16 (R a0 2) := ty_Store_2 hT o0
          refine lv_iload_n hx hb d_Store_writeOutcome_57 rfl (lv_at hl 3 rfl) ?_
          obtain ⟨hi58, h⟩ := chk_el h
          refine gg_tald hx hb hK hP o_54 hi58 d_Store_writeOutcome_58 ?_
          have o_58 : okA g 3 0 (R (R a0 2) x1.toNatClampNeg) := ty_9 hT o_54 _
          refine lv_astore (lv' := [(5, .ref (R (R a0 2) x1.toNatClampNeg)), (4, .ref (R (R (R a0 1) v2.toNatClampNeg) 2)), (3, .int v2), (0, .ref a0), (1, .int x1), (2, .int x2)]) hx hb d_Store_writeOutcome_59 hl (Nat.le_of_ble_eq_true rfl) rfl (fun ls hl => ?_)
          refine lv_aload_n hx hb d_Store_writeOutcome_61 rfl (lv_at hl 3 rfl) ?_
          refine gg_get (C := R_Store) (T := F_Store) (N := 4) (ci := 4) hx hb hall i_Store hown hK hP o0.1 (wE_4 o0.2) rfl 1 (by decide) (hall _ m_8) (fun _ h9 => h9) rfl d_Store_writeOutcome_62 ?_
          have o_62 : okA g 8 6 (R a0 1) := ty_Store_1 hT o0
          refine lv_iload_n hx hb d_Store_writeOutcome_65 rfl (lv_at hl 2 rfl) ?_
          obtain ⟨hi66, h⟩ := chk_el h
          refine gg_nald hx hb hK hP o_62 hi66 d_Store_writeOutcome_66 ?_
          have o_66 : okA g 2 0 (R (R a0 1) v2.toNatClampNeg) := ty_8 hT o_62 _
          refine lv_iconst (v := 3) hx hb d_Store_writeOutcome_67 (by decide) ?_
          refine lv_iload_n hx hb d_Store_writeOutcome_68 rfl (lv_at hl 4 rfl) ?_
          refine lv_aload hx hb d_Store_writeOutcome_69 (lv_at hl 0 rfl) ?_
          refine gg_get (C := R_Txn) (T := F_Txn) (N := 5) (ci := 3) hx hb hall i_Txn hown hK hP o_58.1 (wE_3 o_58.2) rfl 3 (by decide) (hall _ m_229) (fun _ h9 => h9) rfl d_Store_writeOutcome_71 ?_
          refine lv_iconst (v := 3) hx hb d_Store_writeOutcome_74 (by decide) ?_
          refine lv_icmp_ne hx hb d_Store_writeOutcome_75 rfl (fun hc => ?_) (fun hc => ?_)
          · replace h := i_neg hc h
            refine lv_iconst (v := (-1)) hx hb d_Store_writeOutcome_86 (by decide) ?_
            exact b_Store_writeOutcome_87 cx _ _ _ _ _ _ _ _ o_66 h hP hS (lv_sub hl [] rfl)
          · replace h := i_pos hc h
            refine lv_aload hx hb d_Store_writeOutcome_78 (lv_at hl 0 rfl) ?_
            refine gg_get (C := R_Txn) (T := F_Txn) (N := 5) (ci := 3) hx hb hall i_Txn hown hK hP o_58.1 (wE_3 o_58.2) rfl 4 (by decide) (hall _ m_301) (fun _ h9 => h9) rfl d_Store_writeOutcome_80 ?_
            refine lv_goto hx hb d_Store_writeOutcome_83 rfl ?_
            exact b_Store_writeOutcome_87 cx _ _ _ _ _ _ _ _ o_66 h hP hS (lv_sub hl [] rfl)
  · replace h := i_pos hc h
    obtain rfl := Option.some.inj h
    exact gg_vret hx hb hr hlk hK hP hS d_Store_writeOutcome_11
abbrev b_Store_step : ByteArray := prog_1_method_14_code
def y_Store_step : MethodName := ⟨"StampedStore", "step", "(I)I"⟩
def w_Store_step : List Cond := .code y_Store_step b_Store_step 2 (some .int) :: w_all
theorem d_Store_step_0 : decode b_Store_step 0 = .ok (.aload_n 0, 1) := by decide +kernel
theorem d_Store_step_1 : decode b_Store_step 1 = .ok (.iload_n 1, 1) := by decide +kernel
theorem d_Store_step_2 : decode b_Store_step 2 = .ok (.invokevirtual 122, 3) := by decide +kernel
theorem d_Store_step_5 : decode b_Store_step 5 = .ok (.ifCond .ne 5, 3) := by decide +kernel
theorem d_Store_step_8 : decode b_Store_step 8 = .ok (.iconst (-1), 1) := by decide +kernel
theorem d_Store_step_9 : decode b_Store_step 9 = .ok (.ireturn, 1) := by decide +kernel
theorem d_Store_step_10 : decode b_Store_step 10 = .ok (.aload_n 0, 1) := by decide +kernel
theorem d_Store_step_11 : decode b_Store_step 11 = .ok (.getfield 17, 3) := by decide +kernel
theorem d_Store_step_14 : decode b_Store_step 14 = .ok (.iload_n 1, 1) := by decide +kernel
theorem d_Store_step_15 : decode b_Store_step 15 = .ok (.aaload, 1) := by decide +kernel
theorem d_Store_step_16 : decode b_Store_step 16 = .ok (.getfield 128, 3) := by decide +kernel
theorem d_Store_step_19 : decode b_Store_step 19 = .ok (.tableswitch 63 1 4 #[29, 35, 41, 41], 29) := by decide +kernel
theorem d_Store_step_48 : decode b_Store_step 48 = .ok (.aload_n 0, 1) := by decide +kernel
theorem d_Store_step_49 : decode b_Store_step 49 = .ok (.iload_n 1, 1) := by decide +kernel
theorem d_Store_step_50 : decode b_Store_step 50 = .ok (.invokevirtual 182, 3) := by decide +kernel
theorem d_Store_step_53 : decode b_Store_step 53 = .ok (.ireturn, 1) := by decide +kernel
theorem d_Store_step_54 : decode b_Store_step 54 = .ok (.aload_n 0, 1) := by decide +kernel
theorem d_Store_step_55 : decode b_Store_step 55 = .ok (.iload_n 1, 1) := by decide +kernel
theorem d_Store_step_56 : decode b_Store_step 56 = .ok (.invokevirtual 185, 3) := by decide +kernel
theorem d_Store_step_59 : decode b_Store_step 59 = .ok (.ireturn, 1) := by decide +kernel
theorem d_Store_step_60 : decode b_Store_step 60 = .ok (.aload_n 0, 1) := by decide +kernel
theorem d_Store_step_61 : decode b_Store_step 61 = .ok (.iload_n 1, 1) := by decide +kernel
theorem d_Store_step_62 : decode b_Store_step 62 = .ok (.iconst 0, 1) := by decide +kernel
theorem d_Store_step_63 : decode b_Store_step 63 = .ok (.invokevirtual 188, 3) := by decide +kernel
theorem d_Store_step_66 : decode b_Store_step 66 = .ok (.aload_n 0, 1) := by decide +kernel
theorem d_Store_step_67 : decode b_Store_step 67 = .ok (.iload_n 1, 1) := by decide +kernel
theorem d_Store_step_68 : decode b_Store_step 68 = .ok (.iconst 1, 1) := by decide +kernel
theorem d_Store_step_69 : decode b_Store_step 69 = .ok (.invokevirtual 188, 3) := by decide +kernel
theorem d_Store_step_72 : decode b_Store_step 72 = .ok (.aload_n 0, 1) := by decide +kernel
theorem d_Store_step_73 : decode b_Store_step 73 = .ok (.getfield 17, 3) := by decide +kernel
theorem d_Store_step_76 : decode b_Store_step 76 = .ok (.iload_n 1, 1) := by decide +kernel
theorem d_Store_step_77 : decode b_Store_step 77 = .ok (.aaload, 1) := by decide +kernel
theorem d_Store_step_78 : decode b_Store_step 78 = .ok (.getfield 128, 3) := by decide +kernel
theorem d_Store_step_81 : decode b_Store_step 81 = .ok (.ireturn, 1) := by decide +kernel
theorem d_Store_step_82 : decode b_Store_step 82 = .ok (.aload_n 0, 1) := by decide +kernel
theorem d_Store_step_83 : decode b_Store_step 83 = .ok (.getfield 17, 3) := by decide +kernel
theorem d_Store_step_86 : decode b_Store_step 86 = .ok (.iload_n 1, 1) := by decide +kernel
theorem d_Store_step_87 : decode b_Store_step 87 = .ok (.aaload, 1) := by decide +kernel
theorem d_Store_step_88 : decode b_Store_step 88 = .ok (.getfield 128, 3) := by decide +kernel
theorem d_Store_step_91 : decode b_Store_step 91 = .ok (.ireturn, 1) := by decide +kernel
def F_Store_step (R : Nat → Nat → Nat) (a0 : Nat) (x1 : Int32) (I : St) : Option (Int32 × St) := (ob (F_Store_isTransaction R a0 x1 I) (fun v2 => (if v2 = 0 then some ((-1 : Int32), I) else (chk x1 16 ((if (I (R (R a0 2) x1.toNatClampNeg) 3) = 1 then (ob2 (F_Store_stepPreparing R a0 x1 I) (fun v50 I50 => some (v50, I50))) else (if (I (R (R a0 2) x1.toNatClampNeg) 3) = 2 then (ob2 (F_Store_stepCommitting R a0 x1 I) (fun v56 I56 => some (v56, I56))) else (if (I (R (R a0 2) x1.toNatClampNeg) 3) = 3 then (ob (F_Store_writeOutcome R a0 x1 (0 : Int32) I) (fun I63 => (ob (F_Store_writeOutcome R a0 x1 (1 : Int32) I63) (fun I69 => (chk x1 16 (some ((I69 (R (R a0 2) x1.toNatClampNeg) 3), I69))))))) else (if (I (R (R a0 2) x1.toNatClampNeg) 3) = 4 then (ob (F_Store_writeOutcome R a0 x1 (0 : Int32) I) (fun I63 => (ob (F_Store_writeOutcome R a0 x1 (1 : Int32) I63) (fun I69 => (chk x1 16 (some ((I69 (R (R a0 2) x1.toNatClampNeg) 3), I69))))))) else (chk x1 16 (some ((I (R (R a0 2) x1.toNatClampNeg) 3), I))))))))))))
set_option maxHeartbeats 4000000 in
set_option maxRecDepth 100000 in
theorem c_Store_step (l : Launch) {g : Sg} {R : Nat → Nat → Nat} (hT : Ty g R) {a0 : Nat} (o0 : okA g 4 0 a0) {x1 : Int32} {I : St} {J : St} {v : Int32} (h : F_Store_step R a0 x1 I = some (v, J)) : Cti l g R y_Store_step w_Store_step 5 117 [.ref a0, .int x1] I v J := by
  unfold Cti
  refine Met.ofW (cc := b_Store_step) (maxL := 2) (ret := (some .int)) (by decide) rfl ?_
  intro p e s m args below meth c s₁ B hml hv
  obtain ⟨rfl, hP, hK⟩ := hv
  have hts := atoms_spec (ws := w_Store_step) B.pre
  have hall : ∀ w ∈ w_all, w.before _ s = true := fun w hw => hts w (List.mem_cons_of_mem _ hw)
  have hown : s.vm.findClass R_Store = some m.cls := findClass_of_methodNamed B.named
  have hx := B.exec
  have hb := B.bytes
  have hr := B.returns
  have hlk := B.notSynchronized
  have cx : Cx p s m _ meth c g R R_Store b_Store_step 2 (some .int) := ⟨hx, hb, hml, hr, hlk, hown, hall, hT, hK⟩
  have hl := lv_entry ([.ref a0, .int x1]) (n := 2) (Nat.le_of_ble_eq_true rfl)
  rw [lg_entry_eq]
  generalize (lg_sl ([.ref a0, .int x1]) ++ List.replicate (2 - (lg_sl ([.ref a0, .int x1])).length) Slot.unset).toArray = ls at hl ⊢
  have hl : lv_has ls 2 [(0, .ref a0), (1, .int x1)] := hl
  have hS : va_S (· ∈ g.L) s.heap s.heap [] := va_S.rf
  unfold F_Store_step at h
  refine lv_aload_n hx hb d_Store_step_0 rfl (lv_at hl 0 rfl) ?_
  refine lv_iload_n hx hb d_Store_step_1 rfl (lv_at hl 1 rfl) ?_
  obtain ⟨v2, e2, h⟩ := ob_el h
  refine gg_Vi (As := [.int x1]) (rest := []) (ci := 4) (C := R_Store) (T := F_Store) (N := 4) ⟨hx, hb, hml, hown, hall⟩ (c_Store_isTransaction l hT o0 e2) (cwV 1 hall (gV m_215 m_216 m_217 m_6 m_160) rfl rfl rfl (by decide +kernel) ⟨Nat.le_of_ble_eq_true rfl, Nat.le_of_ble_eq_true rfl⟩) hK hP hS o0.1 (wE_4 o0.2) rfl rfl hl.1 rfl (Nat.le_of_ble_eq_true rfl) d_Store_step_2 (fun H locs hP hS => ?_)
  refine lv_if_ne hx hb d_Store_step_5 rfl (fun hc => ?_) (fun hc => ?_)
  · replace h := i_neg hc h
    refine lv_aload_n hx hb d_Store_step_10 rfl (lv_at hl 0 rfl) ?_
    refine gg_get (C := R_Store) (T := F_Store) (N := 4) (ci := 4) hx hb hall i_Store hown hK hP o0.1 (wE_4 o0.2) rfl 2 (by decide) (hall _ m_202) (fun _ h9 => h9) rfl d_Store_step_11 ?_
    have o_11 : okA g 9 16 (R a0 2) := ty_Store_2 hT o0
    refine lv_iload_n hx hb d_Store_step_14 rfl (lv_at hl 1 rfl) ?_
    obtain ⟨hi15, h⟩ := chk_el h
    refine gg_tald hx hb hK hP o_11 hi15 d_Store_step_15 ?_
    have o_15 : okA g 3 0 (R (R a0 2) x1.toNatClampNeg) := ty_9 hT o_11 _
    refine gg_get (C := R_Txn) (T := F_Txn) (N := 5) (ci := 3) hx hb hall i_Txn hown hK hP o_15.1 (wE_3 o_15.2) rfl 3 (by decide) (hall _ m_229) (fun _ h9 => h9) rfl d_Store_step_16 ?_
    by_cases hc1 : (I (R (R a0 2) x1.toNatClampNeg) 3) = 1
    · replace h := i_pos hc1 h
      refine sw_eq hc1 ?_
      refine lv_tableIn hx hb d_Store_step_19 (by decide) (by decide) rfl rfl ?_
      refine lv_aload_n hx hb d_Store_step_48 rfl (lv_at hl 0 rfl) ?_
      refine lv_iload_n hx hb d_Store_step_49 rfl (lv_at hl 1 rfl) ?_
      obtain ⟨v50, I50, e50, h⟩ := ob2_el h
      refine gg_Vi (As := [.int x1]) (rest := []) (ci := 4) (C := R_Store) (T := F_Store) (N := 4) ⟨hx, hb, hml, hown, hall⟩ (c_Store_stepPreparing l hT o0 e50) (cwV 1 hall (gV m_304 m_305 m_306 m_6 m_300) rfl rfl rfl (by decide +kernel) ⟨Nat.le_of_ble_eq_true rfl, Nat.le_of_ble_eq_true rfl⟩) hK hP hS o0.1 (wE_4 o0.2) rfl rfl hl.1 rfl (Nat.le_of_ble_eq_true rfl) d_Store_step_50 (fun H locs hP hS => ?_)
      obtain ⟨rfl, rfl⟩ := rt_el h
      exact gg_iret hx hb hr hlk hK hP hS d_Store_step_53
    · replace h := i_neg hc1 h
      by_cases hc2 : (I (R (R a0 2) x1.toNatClampNeg) 3) = 2
      · replace h := i_pos hc2 h
        refine sw_eq hc2 ?_
        refine lv_tableIn hx hb d_Store_step_19 (by decide) (by decide) rfl rfl ?_
        refine lv_aload_n hx hb d_Store_step_54 rfl (lv_at hl 0 rfl) ?_
        refine lv_iload_n hx hb d_Store_step_55 rfl (lv_at hl 1 rfl) ?_
        obtain ⟨v56, I56, e56, h⟩ := ob2_el h
        refine gg_Vi (As := [.int x1]) (rest := []) (ci := 4) (C := R_Store) (T := F_Store) (N := 4) ⟨hx, hb, hml, hown, hall⟩ (c_Store_stepCommitting l hT o0 e56) (cwV 1 hall (gV m_307 m_308 m_309 m_6 m_302) rfl rfl rfl (by decide +kernel) ⟨Nat.le_of_ble_eq_true rfl, Nat.le_of_ble_eq_true rfl⟩) hK hP hS o0.1 (wE_4 o0.2) rfl rfl hl.1 rfl (Nat.le_of_ble_eq_true rfl) d_Store_step_56 (fun H locs hP hS => ?_)
        obtain ⟨rfl, rfl⟩ := rt_el h
        exact gg_iret hx hb hr hlk hK hP hS d_Store_step_59
      · replace h := i_neg hc2 h
        by_cases hc3 : (I (R (R a0 2) x1.toNatClampNeg) 3) = 3
        · replace h := i_pos hc3 h
          refine sw_eq hc3 ?_
          refine lv_tableIn hx hb d_Store_step_19 (by decide) (by decide) rfl rfl ?_
          refine lv_aload_n hx hb d_Store_step_60 rfl (lv_at hl 0 rfl) ?_
          refine lv_iload_n hx hb d_Store_step_61 rfl (lv_at hl 1 rfl) ?_
          refine lv_iconst (v := 0) hx hb d_Store_step_62 (by decide) ?_
          obtain ⟨I63, e63, h⟩ := ob_el h
          refine gg_Vv (As := [.int x1, .int (0 : Int32)]) (rest := []) (ci := 4) (C := R_Store) (T := F_Store) (N := 4) ⟨hx, hb, hml, hown, hall⟩ (c_Store_writeOutcome l hT o0 e63) (cwV 2 hall (gV m_310 m_311 m_312 m_6 m_303) rfl rfl rfl (by decide +kernel) ⟨Nat.le_of_ble_eq_true rfl, Nat.le_of_ble_eq_true rfl⟩) hK hP hS o0.1 (wE_4 o0.2) rfl rfl hl.1 rfl (Nat.le_of_ble_eq_true rfl) d_Store_step_63 (fun H locs hP hS => ?_)
          refine lv_aload_n hx hb d_Store_step_66 rfl (lv_at hl 0 rfl) ?_
          refine lv_iload_n hx hb d_Store_step_67 rfl (lv_at hl 1 rfl) ?_
          refine lv_iconst (v := 1) hx hb d_Store_step_68 (by decide) ?_
          obtain ⟨I69, e69, h⟩ := ob_el h
          refine gg_Vv (As := [.int x1, .int (1 : Int32)]) (rest := []) (ci := 4) (C := R_Store) (T := F_Store) (N := 4) ⟨hx, hb, hml, hown, hall⟩ (c_Store_writeOutcome l hT o0 e69) (cwV 2 hall (gV m_310 m_311 m_312 m_6 m_303) rfl rfl rfl (by decide +kernel) ⟨Nat.le_of_ble_eq_true rfl, Nat.le_of_ble_eq_true rfl⟩) hK hP hS o0.1 (wE_4 o0.2) rfl rfl hl.1 rfl (Nat.le_of_ble_eq_true rfl) d_Store_step_69 (fun H locs hP hS => ?_)
          refine lv_aload_n hx hb d_Store_step_72 rfl (lv_at hl 0 rfl) ?_
          refine gg_get (C := R_Store) (T := F_Store) (N := 4) (ci := 4) hx hb hall i_Store hown hK hP o0.1 (wE_4 o0.2) rfl 2 (by decide) (hall _ m_202) (fun _ h9 => h9) rfl d_Store_step_73 ?_
          have o_73 : okA g 9 16 (R a0 2) := ty_Store_2 hT o0
          refine lv_iload_n hx hb d_Store_step_76 rfl (lv_at hl 1 rfl) ?_
          obtain ⟨hi77, h⟩ := chk_el h
          refine gg_tald hx hb hK hP o_73 hi77 d_Store_step_77 ?_
          have o_77 : okA g 3 0 (R (R a0 2) x1.toNatClampNeg) := ty_9 hT o_73 _
          refine gg_get (C := R_Txn) (T := F_Txn) (N := 5) (ci := 3) hx hb hall i_Txn hown hK hP o_77.1 (wE_3 o_77.2) rfl 3 (by decide) (hall _ m_229) (fun _ h9 => h9) rfl d_Store_step_78 ?_
          obtain ⟨rfl, rfl⟩ := rt_el h
          exact gg_iret hx hb hr hlk hK hP hS d_Store_step_81
        · replace h := i_neg hc3 h
          by_cases hc4 : (I (R (R a0 2) x1.toNatClampNeg) 3) = 4
          · replace h := i_pos hc4 h
            refine sw_eq hc4 ?_
            refine lv_tableIn hx hb d_Store_step_19 (by decide) (by decide) rfl rfl ?_
            refine lv_aload_n hx hb d_Store_step_60 rfl (lv_at hl 0 rfl) ?_
            refine lv_iload_n hx hb d_Store_step_61 rfl (lv_at hl 1 rfl) ?_
            refine lv_iconst (v := 0) hx hb d_Store_step_62 (by decide) ?_
            obtain ⟨I63, e63, h⟩ := ob_el h
            refine gg_Vv (As := [.int x1, .int (0 : Int32)]) (rest := []) (ci := 4) (C := R_Store) (T := F_Store) (N := 4) ⟨hx, hb, hml, hown, hall⟩ (c_Store_writeOutcome l hT o0 e63) (cwV 2 hall (gV m_310 m_311 m_312 m_6 m_303) rfl rfl rfl (by decide +kernel) ⟨Nat.le_of_ble_eq_true rfl, Nat.le_of_ble_eq_true rfl⟩) hK hP hS o0.1 (wE_4 o0.2) rfl rfl hl.1 rfl (Nat.le_of_ble_eq_true rfl) d_Store_step_63 (fun H locs hP hS => ?_)
            refine lv_aload_n hx hb d_Store_step_66 rfl (lv_at hl 0 rfl) ?_
            refine lv_iload_n hx hb d_Store_step_67 rfl (lv_at hl 1 rfl) ?_
            refine lv_iconst (v := 1) hx hb d_Store_step_68 (by decide) ?_
            obtain ⟨I69, e69, h⟩ := ob_el h
            refine gg_Vv (As := [.int x1, .int (1 : Int32)]) (rest := []) (ci := 4) (C := R_Store) (T := F_Store) (N := 4) ⟨hx, hb, hml, hown, hall⟩ (c_Store_writeOutcome l hT o0 e69) (cwV 2 hall (gV m_310 m_311 m_312 m_6 m_303) rfl rfl rfl (by decide +kernel) ⟨Nat.le_of_ble_eq_true rfl, Nat.le_of_ble_eq_true rfl⟩) hK hP hS o0.1 (wE_4 o0.2) rfl rfl hl.1 rfl (Nat.le_of_ble_eq_true rfl) d_Store_step_69 (fun H locs hP hS => ?_)
            refine lv_aload_n hx hb d_Store_step_72 rfl (lv_at hl 0 rfl) ?_
            refine gg_get (C := R_Store) (T := F_Store) (N := 4) (ci := 4) hx hb hall i_Store hown hK hP o0.1 (wE_4 o0.2) rfl 2 (by decide) (hall _ m_202) (fun _ h9 => h9) rfl d_Store_step_73 ?_
            have o_73 : okA g 9 16 (R a0 2) := ty_Store_2 hT o0
            refine lv_iload_n hx hb d_Store_step_76 rfl (lv_at hl 1 rfl) ?_
            obtain ⟨hi77, h⟩ := chk_el h
            refine gg_tald hx hb hK hP o_73 hi77 d_Store_step_77 ?_
            have o_77 : okA g 3 0 (R (R a0 2) x1.toNatClampNeg) := ty_9 hT o_73 _
            refine gg_get (C := R_Txn) (T := F_Txn) (N := 5) (ci := 3) hx hb hall i_Txn hown hK hP o_77.1 (wE_3 o_77.2) rfl 3 (by decide) (hall _ m_229) (fun _ h9 => h9) rfl d_Store_step_78 ?_
            obtain ⟨rfl, rfl⟩ := rt_el h
            exact gg_iret hx hb hr hlk hK hP hS d_Store_step_81
          · replace h := i_neg hc4 h
            refine lv_tableOut hx hb d_Store_step_19 (by have n1 := lv_neT hc1 (a := 1) rfl; have n2 := lv_neT hc2 (a := 2) rfl; have n3 := lv_neT hc3 (a := 3) rfl; have n4 := lv_neT hc4 (a := 4) rfl; omega) rfl ?_
            refine lv_aload_n hx hb d_Store_step_82 rfl (lv_at hl 0 rfl) ?_
            refine gg_get (C := R_Store) (T := F_Store) (N := 4) (ci := 4) hx hb hall i_Store hown hK hP o0.1 (wE_4 o0.2) rfl 2 (by decide) (hall _ m_202) (fun _ h9 => h9) rfl d_Store_step_83 ?_
            have o_83 : okA g 9 16 (R a0 2) := ty_Store_2 hT o0
            refine lv_iload_n hx hb d_Store_step_86 rfl (lv_at hl 1 rfl) ?_
            obtain ⟨hi87, h⟩ := chk_el h
            refine gg_tald hx hb hK hP o_83 hi87 d_Store_step_87 ?_
            have o_87 : okA g 3 0 (R (R a0 2) x1.toNatClampNeg) := ty_9 hT o_83 _
            refine gg_get (C := R_Txn) (T := F_Txn) (N := 5) (ci := 3) hx hb hall i_Txn hown hK hP o_87.1 (wE_3 o_87.2) rfl 3 (by decide) (hall _ m_229) (fun _ h9 => h9) rfl d_Store_step_88 ?_
            obtain ⟨rfl, rfl⟩ := rt_el h
            exact gg_iret hx hb hr hlk hK hP hS d_Store_step_91
  · replace h := i_pos hc h
    refine lv_iconst (v := (-1)) hx hb d_Store_step_8 (by decide) ?_
    obtain ⟨rfl, rfl⟩ := rt_el h
    exact gg_iret hx hb hr hlk hK hP hS d_Store_step_9
abbrev b_Store_state : ByteArray := prog_1_method_15_code
def y_Store_state : MethodName := ⟨"StampedStore", "state", "(I)I"⟩
def w_Store_state : List Cond := .code y_Store_state b_Store_state 2 (some .int) :: w_all
theorem d_Store_state_0 : decode b_Store_state 0 = .ok (.aload_n 0, 1) := by decide +kernel
theorem d_Store_state_1 : decode b_Store_state 1 = .ok (.iload_n 1, 1) := by decide +kernel
theorem d_Store_state_2 : decode b_Store_state 2 = .ok (.invokevirtual 122, 3) := by decide +kernel
theorem d_Store_state_5 : decode b_Store_state 5 = .ok (.ifCond .eq 15, 3) := by decide +kernel
theorem d_Store_state_8 : decode b_Store_state 8 = .ok (.aload_n 0, 1) := by decide +kernel
theorem d_Store_state_9 : decode b_Store_state 9 = .ok (.getfield 17, 3) := by decide +kernel
theorem d_Store_state_12 : decode b_Store_state 12 = .ok (.iload_n 1, 1) := by decide +kernel
theorem d_Store_state_13 : decode b_Store_state 13 = .ok (.aaload, 1) := by decide +kernel
theorem d_Store_state_14 : decode b_Store_state 14 = .ok (.getfield 128, 3) := by decide +kernel
theorem d_Store_state_17 : decode b_Store_state 17 = .ok (.goto 4, 3) := by decide +kernel
theorem d_Store_state_20 : decode b_Store_state 20 = .ok (.iconst (-1), 1) := by decide +kernel
theorem d_Store_state_21 : decode b_Store_state 21 = .ok (.ireturn, 1) := by decide +kernel
def F_Store_state (R : Nat → Nat → Nat) (a0 : Nat) (x1 : Int32) (I : St) : Option Int32 := (ob (F_Store_isTransaction R a0 x1 I) (fun v2 => (if v2 = 0 then some (-1 : Int32) else (chk x1 16 (some (I (R (R a0 2) x1.toNatClampNeg) 3))))))
set_option maxHeartbeats 4000000 in
set_option maxRecDepth 100000 in
theorem c_Store_state (l : Launch) {g : Sg} {R : Nat → Nat → Nat} (hT : Ty g R) {a0 : Nat} (o0 : okA g 4 0 a0) {x1 : Int32} {I : St} {v : Int32} (h : F_Store_state R a0 x1 I = some v) : Cti l g R y_Store_state w_Store_state 1 21 [.ref a0, .int x1] I v I := by
  unfold Cti
  refine Met.ofW (cc := b_Store_state) (maxL := 2) (ret := (some .int)) (by decide) rfl ?_
  intro p e s m args below meth c s₁ B hml hv
  obtain ⟨rfl, hP, hK⟩ := hv
  have hts := atoms_spec (ws := w_Store_state) B.pre
  have hall : ∀ w ∈ w_all, w.before _ s = true := fun w hw => hts w (List.mem_cons_of_mem _ hw)
  have hown : s.vm.findClass R_Store = some m.cls := findClass_of_methodNamed B.named
  have hx := B.exec
  have hb := B.bytes
  have hr := B.returns
  have hlk := B.notSynchronized
  have cx : Cx p s m _ meth c g R R_Store b_Store_state 2 (some .int) := ⟨hx, hb, hml, hr, hlk, hown, hall, hT, hK⟩
  have hl := lv_entry ([.ref a0, .int x1]) (n := 2) (Nat.le_of_ble_eq_true rfl)
  rw [lg_entry_eq]
  generalize (lg_sl ([.ref a0, .int x1]) ++ List.replicate (2 - (lg_sl ([.ref a0, .int x1])).length) Slot.unset).toArray = ls at hl ⊢
  have hl : lv_has ls 2 [(0, .ref a0), (1, .int x1)] := hl
  have hS : va_S (· ∈ g.L) s.heap s.heap [] := va_S.rf
  unfold F_Store_state at h
  refine lv_aload_n hx hb d_Store_state_0 rfl (lv_at hl 0 rfl) ?_
  refine lv_iload_n hx hb d_Store_state_1 rfl (lv_at hl 1 rfl) ?_
  obtain ⟨v2, e2, h⟩ := ob_el h
  refine gg_Vi (As := [.int x1]) (rest := []) (ci := 4) (C := R_Store) (T := F_Store) (N := 4) ⟨hx, hb, hml, hown, hall⟩ (c_Store_isTransaction l hT o0 e2) (cwV 1 hall (gV m_215 m_216 m_217 m_6 m_160) rfl rfl rfl (by decide +kernel) ⟨Nat.le_of_ble_eq_true rfl, Nat.le_of_ble_eq_true rfl⟩) hK hP hS o0.1 (wE_4 o0.2) rfl rfl hl.1 rfl (Nat.le_of_ble_eq_true rfl) d_Store_state_2 (fun H locs hP hS => ?_)
  refine lv_if_eq hx hb d_Store_state_5 rfl (fun hc => ?_) (fun hc => ?_)
  · replace h := i_pos hc h
    refine lv_iconst (v := (-1)) hx hb d_Store_state_20 (by decide) ?_
    obtain rfl := Option.some.inj h
    exact gg_iret hx hb hr hlk hK hP hS d_Store_state_21
  · replace h := i_neg hc h
    refine lv_aload_n hx hb d_Store_state_8 rfl (lv_at hl 0 rfl) ?_
    refine gg_get (C := R_Store) (T := F_Store) (N := 4) (ci := 4) hx hb hall i_Store hown hK hP o0.1 (wE_4 o0.2) rfl 2 (by decide) (hall _ m_202) (fun _ h9 => h9) rfl d_Store_state_9 ?_
    have o_9 : okA g 9 16 (R a0 2) := ty_Store_2 hT o0
    refine lv_iload_n hx hb d_Store_state_12 rfl (lv_at hl 1 rfl) ?_
    obtain ⟨hi13, h⟩ := chk_el h
    refine gg_tald hx hb hK hP o_9 hi13 d_Store_state_13 ?_
    have o_13 : okA g 3 0 (R (R a0 2) x1.toNatClampNeg) := ty_9 hT o_9 _
    refine gg_get (C := R_Txn) (T := F_Txn) (N := 5) (ci := 3) hx hb hall i_Txn hown hK hP o_13.1 (wE_3 o_13.2) rfl 3 (by decide) (hall _ m_229) (fun _ h9 => h9) rfl d_Store_state_14 ?_
    refine lv_goto hx hb d_Store_state_17 rfl ?_
    obtain rfl := Option.some.inj h
    exact gg_iret hx hb hr hlk hK hP hS d_Store_state_21
end
