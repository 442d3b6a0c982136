section
abbrev b_Store_stamp : ByteArray := prog_1_method_16_code
def y_Store_stamp : MethodName := ⟨"StampedStore", "stamp", "(I)I"⟩
def w_Store_stamp : List Cond := .code y_Store_stamp b_Store_stamp 2 (some .int) :: w_all
theorem d_Store_stamp_0 : decode b_Store_stamp 0 = .ok (.aload_n 0, 1) := by decide +kernel
theorem d_Store_stamp_1 : decode b_Store_stamp 1 = .ok (.iload_n 1, 1) := by decide +kernel
theorem d_Store_stamp_2 : decode b_Store_stamp 2 = .ok (.invokevirtual 122, 3) := by decide +kernel
theorem d_Store_stamp_5 : decode b_Store_stamp 5 = .ok (.ifCond .eq 15, 3) := by decide +kernel
theorem d_Store_stamp_8 : decode b_Store_stamp 8 = .ok (.aload_n 0, 1) := by decide +kernel
theorem d_Store_stamp_9 : decode b_Store_stamp 9 = .ok (.getfield 17, 3) := by decide +kernel
theorem d_Store_stamp_12 : decode b_Store_stamp 12 = .ok (.iload_n 1, 1) := by decide +kernel
theorem d_Store_stamp_13 : decode b_Store_stamp 13 = .ok (.aaload, 1) := by decide +kernel
theorem d_Store_stamp_14 : decode b_Store_stamp 14 = .ok (.getfield 191, 3) := by decide +kernel
theorem d_Store_stamp_17 : decode b_Store_stamp 17 = .ok (.goto 4, 3) := by decide +kernel
theorem d_Store_stamp_20 : decode b_Store_stamp 20 = .ok (.iconst (-1), 1) := by decide +kernel
theorem d_Store_stamp_21 : decode b_Store_stamp 21 = .ok (.ireturn, 1) := by decide +kernel
def F_Store_stamp (R : Nat → Nat → Nat) (a0 : Nat) (x1 : Int32) (I : St) : Option Int32 := (ob (F_Store_isTransaction R a0 x1 I) (fun v2 => (if v2 = 0 then some (-1 : Int32) else (chk x1 16 (some (I (R (R a0 2) x1.toNatClampNeg) 4))))))
set_option maxHeartbeats 4000000 in
set_option maxRecDepth 100000 in
theorem c_Store_stamp (l : Launch) {g : Sg} {R : Nat → Nat → Nat} (hT : Ty g R) {a0 : Nat} (o0 : okA g 4 0 a0) {x1 : Int32} {I : St} {v : Int32} (h : F_Store_stamp R a0 x1 I = some v) : Cti l g R y_Store_stamp w_Store_stamp 1 21 [.ref a0, .int x1] I v I := by
  unfold Cti
  refine Met.ofW (cc := b_Store_stamp) (maxL := 2) (ret := (some .int)) (by decide) rfl ?_
  intro p e s m args below meth c s₁ B hml hv
  obtain ⟨rfl, hP, hK⟩ := hv
  have hts := atoms_spec (ws := w_Store_stamp) B.pre
  have hall : ∀ w ∈ w_all, w.before _ s = true := fun w hw => hts w (List.mem_cons_of_mem _ hw)
  have hown : s.vm.findClass R_Store = some m.cls := findClass_of_methodNamed B.named
  have hx := B.exec
  have hb := B.bytes
  have hr := B.returns
  have hlk := B.notSynchronized
  have cx : Cx p s m _ meth c g R R_Store b_Store_stamp 2 (some .int) := ⟨hx, hb, hml, hr, hlk, hown, hall, hT, hK⟩
  have hl := lv_entry ([.ref a0, .int x1]) (n := 2) (Nat.le_of_ble_eq_true rfl)
  rw [lg_entry_eq]
  generalize (lg_sl ([.ref a0, .int x1]) ++ List.replicate (2 - (lg_sl ([.ref a0, .int x1])).length) Slot.unset).toArray = ls at hl ⊢
  have hl : lv_has ls 2 [(0, .ref a0), (1, .int x1)] := hl
  have hS : va_S (· ∈ g.L) s.heap s.heap [] := va_S.rf
  unfold F_Store_stamp at h
  refine lv_aload_n hx hb d_Store_stamp_0 rfl (lv_at hl 0 rfl) ?_
  refine lv_iload_n hx hb d_Store_stamp_1 rfl (lv_at hl 1 rfl) ?_
  obtain ⟨v2, e2, h⟩ := ob_el h
  refine gg_Vi (As := [.int x1]) (rest := []) (ci := 4) (C := R_Store) (T := F_Store) (N := 4) ⟨hx, hb, hml, hown, hall⟩ (c_Store_isTransaction l hT o0 e2) (cwV 1 hall (gV m_215 m_216 m_217 m_6 m_160) rfl rfl rfl (by decide +kernel) ⟨Nat.le_of_ble_eq_true rfl, Nat.le_of_ble_eq_true rfl⟩) hK hP hS o0.1 (wE_4 o0.2) rfl rfl hl.1 rfl (Nat.le_of_ble_eq_true rfl) d_Store_stamp_2 (fun H locs hP hS => ?_)
  refine lv_if_eq hx hb d_Store_stamp_5 rfl (fun hc => ?_) (fun hc => ?_)
  · replace h := i_pos hc h
    refine lv_iconst (v := (-1)) hx hb d_Store_stamp_20 (by decide) ?_
    obtain rfl := Option.some.inj h
    exact gg_iret hx hb hr hlk hK hP hS d_Store_stamp_21
  · replace h := i_neg hc h
    refine lv_aload_n hx hb d_Store_stamp_8 rfl (lv_at hl 0 rfl) ?_
    refine gg_get (C := R_Store) (T := F_Store) (N := 4) (ci := 4) hx hb hall i_Store hown hK hP o0.1 (wE_4 o0.2) rfl 2 (by decide) (hall _ m_202) (fun _ h9 => h9) rfl d_Store_stamp_9 ?_
    have o_9 : okA g 9 16 (R a0 2) := ty_Store_2 hT o0
    refine lv_iload_n hx hb d_Store_stamp_12 rfl (lv_at hl 1 rfl) ?_
    obtain ⟨hi13, h⟩ := chk_el h
    refine gg_tald hx hb hK hP o_9 hi13 d_Store_stamp_13 ?_
    have o_13 : okA g 3 0 (R (R a0 2) x1.toNatClampNeg) := ty_9 hT o_9 _
    refine gg_get (C := R_Txn) (T := F_Txn) (N := 5) (ci := 3) hx hb hall i_Txn hown hK hP o_13.1 (wE_3 o_13.2) rfl 4 (by decide) (hall _ m_301) (fun _ h9 => h9) rfl d_Store_stamp_14 ?_
    refine lv_goto hx hb d_Store_stamp_17 rfl ?_
    obtain rfl := Option.some.inj h
    exact gg_iret hx hb hr hlk hK hP hS d_Store_stamp_21
abbrev b_Log_safeStamp : ByteArray := prog_3_method_15_code
def y_Log_safeStamp : MethodName := ⟨"StampedStore$Log", "safeStamp", "()I"⟩
def w_Log_safeStamp : List Cond := .code y_Log_safeStamp b_Log_safeStamp 3 (some .int) :: w_all
theorem d_Log_safeStamp_0 : decode b_Log_safeStamp 0 = .ok (.aload_n 0, 1) := by decide +kernel
theorem d_Log_safeStamp_1 : decode b_Log_safeStamp 1 = .ok (.getfield 39, 3) := by decide +kernel
theorem d_Log_safeStamp_4 : decode b_Log_safeStamp 4 = .ok (.ifCond .ne 5, 3) := by decide +kernel
theorem d_Log_safeStamp_7 : decode b_Log_safeStamp 7 = .ok (.iconst (-1), 1) := by decide +kernel
theorem d_Log_safeStamp_8 : decode b_Log_safeStamp 8 = .ok (.ireturn, 1) := by decide +kernel
theorem d_Log_safeStamp_9 : decode b_Log_safeStamp 9 = .ok (.aload_n 0, 1) := by decide +kernel
theorem d_Log_safeStamp_10 : decode b_Log_safeStamp 10 = .ok (.getfield 15, 3) := by decide +kernel
theorem d_Log_safeStamp_13 : decode b_Log_safeStamp 13 = .ok (.aload_n 0, 1) := by decide +kernel
theorem d_Log_safeStamp_14 : decode b_Log_safeStamp 14 = .ok (.getfield 39, 3) := by decide +kernel
theorem d_Log_safeStamp_17 : decode b_Log_safeStamp 17 = .ok (.iconst 1, 1) := by decide +kernel
theorem d_Log_safeStamp_18 : decode b_Log_safeStamp 18 = .ok (.isub, 1) := by decide +kernel
theorem d_Log_safeStamp_19 : decode b_Log_safeStamp 19 = .ok (.iaload, 1) := by decide +kernel
theorem d_Log_safeStamp_20 : decode b_Log_safeStamp 20 = .ok (.istore_n 1, 1) := by decide +kernel
theorem d_Log_safeStamp_21 : decode b_Log_safeStamp 21 = .ok (.iconst 0, 1) := by decide +kernel
theorem d_Log_safeStamp_22 : decode b_Log_safeStamp 22 = .ok (.istore_n 2, 1) := by decide +kernel
theorem d_Log_safeStamp_23 : decode b_Log_safeStamp 23 = .ok (.iload_n 2, 1) := by decide +kernel
theorem d_Log_safeStamp_24 : decode b_Log_safeStamp 24 = .ok (.aload_n 0, 1) := by decide +kernel
theorem d_Log_safeStamp_25 : decode b_Log_safeStamp 25 = .ok (.getfield 39, 3) := by decide +kernel
theorem d_Log_safeStamp_28 : decode b_Log_safeStamp 28 = .ok (.if_icmp .ge 45, 3) := by decide +kernel
theorem d_Log_safeStamp_31 : decode b_Log_safeStamp 31 = .ok (.aload_n 0, 1) := by decide +kernel
theorem d_Log_safeStamp_32 : decode b_Log_safeStamp 32 = .ok (.getfield 18, 3) := by decide +kernel
theorem d_Log_safeStamp_35 : decode b_Log_safeStamp 35 = .ok (.iload_n 2, 1) := by decide +kernel
theorem d_Log_safeStamp_36 : decode b_Log_safeStamp 36 = .ok (.iaload, 1) := by decide +kernel
theorem d_Log_safeStamp_37 : decode b_Log_safeStamp 37 = .ok (.iconst 1, 1) := by decide +kernel
theorem d_Log_safeStamp_38 : decode b_Log_safeStamp 38 = .ok (.if_icmp .ne 29, 3) := by decide +kernel
theorem d_Log_safeStamp_41 : decode b_Log_safeStamp 41 = .ok (.aload_n 0, 1) := by decide +kernel
theorem d_Log_safeStamp_42 : decode b_Log_safeStamp 42 = .ok (.aload_n 0, 1) := by decide +kernel
theorem d_Log_safeStamp_43 : decode b_Log_safeStamp 43 = .ok (.getfield 21, 3) := by decide +kernel
theorem d_Log_safeStamp_46 : decode b_Log_safeStamp 46 = .ok (.iload_n 2, 1) := by decide +kernel
theorem d_Log_safeStamp_47 : decode b_Log_safeStamp 47 = .ok (.iaload, 1) := by decide +kernel
theorem d_Log_safeStamp_48 : decode b_Log_safeStamp 48 = .ok (.invokevirtual 58, 3) := by decide +kernel
theorem d_Log_safeStamp_51 : decode b_Log_safeStamp 51 = .ok (.ifCond .ne 16, 3) := by decide +kernel
theorem d_Log_safeStamp_54 : decode b_Log_safeStamp 54 = .ok (.iload_n 1, 1) := by decide +kernel
theorem d_Log_safeStamp_55 : decode b_Log_safeStamp 55 = .ok (.aload_n 0, 1) := by decide +kernel
theorem d_Log_safeStamp_56 : decode b_Log_safeStamp 56 = .ok (.getfield 15, 3) := by decide +kernel
theorem d_Log_safeStamp_59 : decode b_Log_safeStamp 59 = .ok (.iload_n 2, 1) := by decide +kernel
theorem d_Log_safeStamp_60 : decode b_Log_safeStamp 60 = .ok (.iaload, 1) := by decide +kernel
theorem d_Log_safeStamp_61 : decode b_Log_safeStamp 61 = .ok (.iconst 1, 1) := by decide +kernel
theorem d_Log_safeStamp_62 : decode b_Log_safeStamp 62 = .ok (.isub, 1) := by decide +kernel
theorem d_Log_safeStamp_63 : decode b_Log_safeStamp 63 = .ok (.invokestatic 62, 3) := by decide +kernel
theorem d_Log_safeStamp_66 : decode b_Log_safeStamp 66 = .ok (.istore_n 1, 1) := by decide +kernel
theorem d_Log_safeStamp_67 : decode b_Log_safeStamp 67 = .ok (.iinc 2 1, 3) := by decide +kernel
theorem d_Log_safeStamp_70 : decode b_Log_safeStamp 70 = .ok (.goto (-47), 3) := by decide +kernel
theorem d_Log_safeStamp_73 : decode b_Log_safeStamp 73 = .ok (.iload_n 1, 1) := by decide +kernel
theorem d_Log_safeStamp_74 : decode b_Log_safeStamp 74 = .ok (.ireturn, 1) := by decide +kernel
def B_Log_safeStamp_67 (R : Nat → Nat → Nat) (I : St) (k23 : Nat → Int32 → Int32 → Option Int32) (a0 : Nat) (x1 : Int32) (x2 : Int32) : Option Int32 := k23 a0 x1 (x2 + 1)
set_option maxHeartbeats 4000000 in
set_option maxRecDepth 100000 in
theorem b_Log_safeStamp_67 {p : Program} {l : Launch} {e : Env} {s : State} {m : MethodId} {args : Array Value} {below : List Frame} {meth : Method} {c : Code} {g : Sg} {R : Nat → Nat → Nat} {I : St} {v : Int32} (cx : Cx p s m args meth c g R R_Log b_Log_safeStamp 3 (some .int)) {k23 : Nat → Int32 → Int32 → Option Int32} (hk23 : ∀ (a0 : Nat) (x1 : Int32) (x2 : Int32) (H : Heap) (locs : List Loc) (ls : Array Slot), okA g 1 0 a0 → k23 a0 x1 x2 = some v → wW g R I H → va_S (· ∈ g.L) s.heap H locs → lv_has ls 3 [(0, .ref a0), (1, .int x1), (2, .int x2)] → W p l e { frames := 3, cells := 0, slots := 0, locals := 67 } s m args below meth c H locs 0 0 (MQ below (Qi g R v I) args s 0 0 (· ∈ g.L)) (F0 m 23 ls [])) : ∀ (a0 : Nat) (x1 : Int32) (x2 : Int32) (H : Heap) (locs : List Loc) (ls : Array Slot), okA g 1 0 a0 → B_Log_safeStamp_67 R I k23 a0 x1 x2 = some v → wW g R I H → va_S (· ∈ g.L) s.heap H locs → lv_has ls 3 [(0, .ref a0), (1, .int x1), (2, .int x2)] → W p l e { frames := 3, cells := 0, slots := 0, locals := 67 } s m args below meth c H locs 0 0 (MQ below (Qi g R v I) args s 0 0 (· ∈ g.L)) (F0 m 67 ls []) := by
  have ⟨hx, hb, hml, hr, hlk, hown, hall, hT, hK⟩ := cx
  intro a0 x1 x2 H locs ls o0 h hP hS hl
  unfold B_Log_safeStamp_67 at h
  refine lv_iinc (k := 2) (v := (x2 + 1)) (lv' := [(2, .int (x2 + 1)), (0, .ref a0), (1, .int x1)]) hx hb d_Log_safeStamp_67 hl rfl (by rw [show Int32.ofInt 1 = (1 : Int32) from by decide]) (Nat.le_of_ble_eq_true rfl) rfl (fun ls hl => ?_)
  refine lv_goto hx hb d_Log_safeStamp_70 rfl ?_
  exact hk23 _ _ _ _ _ _ o0 h hP hS (lv_sub hl [1, 2, 0] rfl)
def B_Log_safeStamp_23 (R : Nat → Nat → Nat) (I : St) : Nat → Nat → Int32 → Int32 → Option Int32
  | 0, _, _, _ => none
  | f + 1, a0, x1, x2 => (if (I a0 6) ≤ x2 then some x1 else (chk x2 60 ((if (I (R a0 2) x2.toNatClampNeg) = (1 : Int32) then (chk x2 60 ((ob (F_Log_knowsEndOf R a0 (I (R a0 3) x2.toNatClampNeg) I) (fun v48 => (if v48 = 0 then (chk x2 60 (B_Log_safeStamp_67 R I (B_Log_safeStamp_23 R I f) a0 (imin x1 ((I (R a0 1) x2.toNatClampNeg) - (1 : Int32))) x2)) else B_Log_safeStamp_67 R I (B_Log_safeStamp_23 R I f) a0 x1 x2))))) else B_Log_safeStamp_67 R I (B_Log_safeStamp_23 R I f) a0 x1 x2))))
set_option maxHeartbeats 4000000 in
set_option maxRecDepth 100000 in
theorem b_Log_safeStamp_23 {p : Program} {l : Launch} {e : Env} {s : State} {m : MethodId} {args : Array Value} {below : List Frame} {meth : Method} {c : Code} {g : Sg} {R : Nat → Nat → Nat} {I : St} {v : Int32} (cx : Cx p s m args meth c g R R_Log b_Log_safeStamp 3 (some .int)) (f : Nat) : ∀ (a0 : Nat) (x1 : Int32) (x2 : Int32) (H : Heap) (locs : List Loc) (ls : Array Slot), okA g 1 0 a0 → B_Log_safeStamp_23 R I f a0 x1 x2 = some v → wW g R I H → va_S (· ∈ g.L) s.heap H locs → lv_has ls 3 [(0, .ref a0), (1, .int x1), (2, .int x2)] → W p l e { frames := 3, cells := 0, slots := 0, locals := 67 } s m args below meth c H locs 0 0 (MQ below (Qi g R v I) args s 0 0 (· ∈ g.L)) (F0 m 23 ls []) := by
  have ⟨hx, hb, hml, hr, hlk, hown, hall, hT, hK⟩ := cx
  induction f with
  | zero => intro a0 x1 x2 H locs ls o0 h; unfold B_Log_safeStamp_23 at h; cases h
  | succ f ih =>
    intro a0 x1 x2 H locs ls o0 h hP hS hl
    unfold B_Log_safeStamp_23 at h
    refine lv_iload_n hx hb d_Log_safeStamp_23 rfl (lv_at hl 2 rfl) ?_
    refine lv_aload_n hx hb d_Log_safeStamp_24 rfl (lv_at hl 0 rfl) ?_
    refine gg_get (C := R_Log) (T := F_Log) (N := 7) (ci := 1) hx hb hall i_Log hown hK hP o0.1 (wE_1 o0.2) rfl 6 (by decide) (hall _ m_142) (fun _ h9 => h9) rfl d_Log_safeStamp_25 ?_
    refine lv_icmp_ge hx hb d_Log_safeStamp_28 rfl (fun hc => ?_) (fun hc => ?_)
    · replace h := i_pos hc h
      refine lv_iload_n hx hb d_Log_safeStamp_73 rfl (lv_at hl 1 rfl) ?_
      obtain rfl := Option.some.inj h
      exact gg_iret hx hb hr hlk hK hP hS d_Log_safeStamp_74
    · replace h := i_neg hc h
      refine lv_aload_n hx hb d_Log_safeStamp_31 rfl (lv_at hl 0 rfl) ?_
      refine gg_get (C := R_Log) (T := F_Log) (N := 7) (ci := 1) hx hb hall i_Log hown hK hP o0.1 (wE_1 o0.2) rfl 2 (by decide) (hall _ m_88) (fun _ h9 => h9) rfl d_Log_safeStamp_32 ?_
      have o_32 : okA g 6 60 (R a0 2) := ty_Log_2 hT o0
      refine lv_iload_n hx hb d_Log_safeStamp_35 rfl (lv_at hl 2 rfl) ?_
      obtain ⟨hi36, h⟩ := chk_el h
      refine gg_iald hx hb hK hP o_32 hi36 d_Log_safeStamp_36 ?_
      refine lv_iconst (v := 1) hx hb d_Log_safeStamp_37 (by decide) ?_
      refine lv_icmp_ne hx hb d_Log_safeStamp_38 rfl (fun hc => ?_) (fun hc => ?_)
      · replace h := i_neg hc h
        exact b_Log_safeStamp_67 cx ih _ _ _ _ _ _ o0 h hP hS (lv_sub hl [0, 1, 2] rfl)
      · replace h := i_pos hc h
        refine lv_aload_n hx hb d_Log_safeStamp_41 rfl (lv_at hl 0 rfl) ?_
        refine lv_aload_n hx hb d_Log_safeStamp_42 rfl (lv_at hl 0 rfl) ?_
        refine gg_get (C := R_Log) (T := F_Log) (N := 7) (ci := 1) hx hb hall i_Log hown hK hP o0.1 (wE_1 o0.2) rfl 3 (by decide) (hall _ m_89) (fun _ h9 => h9) rfl d_Log_safeStamp_43 ?_
        have o_43 : okA g 6 60 (R a0 3) := ty_Log_3 hT o0
        refine lv_iload_n hx hb d_Log_safeStamp_46 rfl (lv_at hl 2 rfl) ?_
        obtain ⟨hi47, h⟩ := chk_el h
        refine gg_iald hx hb hK hP o_43 hi47 d_Log_safeStamp_47 ?_
        obtain ⟨v48, e48, h⟩ := ob_el h
        refine gg_Vi (As := [.int (I (R a0 3) x2.toNatClampNeg)]) (rest := []) (ci := 1) (C := R_Log) (T := F_Log) (N := 7) ⟨hx, hb, hml, hown, hall⟩ (c_Log_knowsEndOf l hT o0 e48) (cwV 1 hall (gV m_198 m_199 m_200 m_38 m_194) rfl rfl rfl (by decide +kernel) ⟨Nat.le_of_ble_eq_true rfl, Nat.le_of_ble_eq_true rfl⟩) hK hP hS o0.1 (wE_1 o0.2) rfl rfl hl.1 rfl (Nat.le_of_ble_eq_true rfl) d_Log_safeStamp_48 (fun H locs hP hS => ?_)
        refine lv_if_ne hx hb d_Log_safeStamp_51 rfl (fun hc => ?_) (fun hc => ?_)
        · replace h := i_neg hc h
          exact b_Log_safeStamp_67 cx ih _ _ _ _ _ _ o0 h hP hS (lv_sub hl [0, 1, 2] rfl)
        · replace h := i_pos hc h
          refine lv_iload_n hx hb d_Log_safeStamp_54 rfl (lv_at hl 1 rfl) ?_
          refine lv_aload_n hx hb d_Log_safeStamp_55 rfl (lv_at hl 0 rfl) ?_
          refine gg_get (C := R_Log) (T := F_Log) (N := 7) (ci := 1) hx hb hall i_Log hown hK hP o0.1 (wE_1 o0.2) rfl 1 (by decide) (hall _ m_73) (fun _ h9 => h9) rfl d_Log_safeStamp_56 ?_
          have o_56 : okA g 6 60 (R a0 1) := ty_Log_1 hT o0
          refine lv_iload_n hx hb d_Log_safeStamp_59 rfl (lv_at hl 2 rfl) ?_
          obtain ⟨hi60, h⟩ := chk_el h
          refine gg_iald hx hb hK hP o_56 hi60 d_Log_safeStamp_60 ?_
          refine lv_iconst (v := 1) hx hb d_Log_safeStamp_61 (by decide) ?_
          refine lv_isub hx hb d_Log_safeStamp_62 ?_
          refine gg_min hx hb hml hl.1 hown (hall _ m_143) (hall _ m_144) (hall _ m_18) (hall _ m_145) (Nat.le_of_ble_eq_true rfl) (Nat.le_of_ble_eq_true rfl) d_Log_safeStamp_63 ?_
          refine lv_istore_n (lv' := [(1, .int (imin x1 ((I (R a0 1) x2.toNatClampNeg) - (1 : Int32)))), (0, .ref a0), (2, .int x2)]) hx hb d_Log_safeStamp_66 rfl hl (Nat.le_of_ble_eq_true rfl) rfl (fun ls hl => ?_)
          exact b_Log_safeStamp_67 cx ih _ _ _ _ _ _ o0 h hP hS (lv_sub hl [1, 0, 2] rfl)
def F_Log_safeStamp (R : Nat → Nat → Nat) (a0 : Nat) (I : St) : Option Int32 := (if (I a0 6) = 0 then some (-1 : Int32) else (chk ((I a0 6) - (1 : Int32)) 60 (B_Log_safeStamp_23 R I 100 a0 (I (R a0 1) ((I a0 6) - (1 : Int32)).toNatClampNeg) (0 : Int32))))
set_option maxHeartbeats 4000000 in
set_option maxRecDepth 100000 in
theorem c_Log_safeStamp (l : Launch) {g : Sg} {R : Nat → Nat → Nat} (hT : Ty g R) {a0 : Nat} (o0 : okA g 1 0 a0) {I : St} {v : Int32} (h : F_Log_safeStamp R a0 I = some v) : Cti l g R y_Log_safeStamp w_Log_safeStamp 3 67 [.ref a0] I v I := by
  unfold Cti
  refine Met.ofW (cc := b_Log_safeStamp) (maxL := 3) (ret := (some .int)) (by decide) rfl ?_
  intro p e s m args below meth c s₁ B hml hv
  obtain ⟨rfl, hP, hK⟩ := hv
  have hts := atoms_spec (ws := w_Log_safeStamp) B.pre
  have hall : ∀ w ∈ w_all, w.before _ s = true := fun w hw => hts w (List.mem_cons_of_mem _ hw)
  have hown : s.vm.findClass R_Log = some m.cls := findClass_of_methodNamed B.named
  have hx := B.exec
  have hb := B.bytes
  have hr := B.returns
  have hlk := B.notSynchronized
  have cx : Cx p s m _ meth c g R R_Log b_Log_safeStamp 3 (some .int) := ⟨hx, hb, hml, hr, hlk, hown, hall, hT, hK⟩
  have hl := lv_entry ([.ref a0]) (n := 3) (Nat.le_of_ble_eq_true rfl)
  rw [lg_entry_eq]
  generalize (lg_sl ([.ref a0]) ++ List.replicate (3 - (lg_sl ([.ref a0])).length) Slot.unset).toArray = ls at hl ⊢
  have hl : lv_has ls 3 [(0, .ref a0)] := hl
  have hS : va_S (· ∈ g.L) s.heap s.heap [] := va_S.rf
  unfold F_Log_safeStamp at h
  refine lv_aload_n hx hb d_Log_safeStamp_0 rfl (lv_at hl 0 rfl) ?_
  refine gg_get (C := R_Log) (T := F_Log) (N := 7) (ci := 1) hx hb hall i_Log hown hK hP o0.1 (wE_1 o0.2) rfl 6 (by decide) (hall _ m_142) (fun _ h9 => h9) rfl d_Log_safeStamp_1 ?_
  refine lv_if_ne hx hb d_Log_safeStamp_4 rfl (fun hc => ?_) (fun hc => ?_)
  · replace h := i_neg hc h
    refine lv_aload_n hx hb d_Log_safeStamp_9 rfl (lv_at hl 0 rfl) ?_
    refine gg_get (C := R_Log) (T := F_Log) (N := 7) (ci := 1) hx hb hall i_Log hown hK hP o0.1 (wE_1 o0.2) rfl 1 (by decide) (hall _ m_73) (fun _ h9 => h9) rfl d_Log_safeStamp_10 ?_
    have o_10 : okA g 6 60 (R a0 1) := ty_Log_1 hT o0
    refine lv_aload_n hx hb d_Log_safeStamp_13 rfl (lv_at hl 0 rfl) ?_
    refine gg_get (C := R_Log) (T := F_Log) (N := 7) (ci := 1) hx hb hall i_Log hown hK hP o0.1 (wE_1 o0.2) rfl 6 (by decide) (hall _ m_142) (fun _ h9 => h9) rfl d_Log_safeStamp_14 ?_
    refine lv_iconst (v := 1) hx hb d_Log_safeStamp_17 (by decide) ?_
    refine lv_isub hx hb d_Log_safeStamp_18 ?_
    obtain ⟨hi19, h⟩ := chk_el h
    refine gg_iald hx hb hK hP o_10 hi19 d_Log_safeStamp_19 ?_
    refine lv_istore_n (lv' := [(1, .int (I (R a0 1) ((I a0 6) - (1 : Int32)).toNatClampNeg)), (0, .ref a0)]) hx hb d_Log_safeStamp_20 rfl hl (Nat.le_of_ble_eq_true rfl) rfl (fun ls hl => ?_)
    refine lv_iconst (v := 0) hx hb d_Log_safeStamp_21 (by decide) ?_
    refine lv_istore_n (lv' := [(2, .int (0 : Int32)), (1, .int (I (R a0 1) ((I a0 6) - (1 : Int32)).toNatClampNeg)), (0, .ref a0)]) hx hb d_Log_safeStamp_22 rfl hl (Nat.le_of_ble_eq_true rfl) rfl (fun ls hl => ?_)
    exact b_Log_safeStamp_23 cx 100 _ _ _ _ _ _ o0 h hP hS (lv_sub hl [2, 1, 0] rfl)
  · replace h := i_pos hc h
    refine lv_iconst (v := (-1)) hx hb d_Log_safeStamp_7 (by decide) ?_
    obtain rfl := Option.some.inj h
    exact gg_iret hx hb hr hlk hK hP hS d_Log_safeStamp_8
abbrev b_Store_oldestKeptStamp : ByteArray := prog_1_method_48_code
def y_Store_oldestKeptStamp : MethodName := ⟨"StampedStore", "oldestKeptStamp", "(LStampedStore$Log;I)I"⟩
def w_Store_oldestKeptStamp : List Cond := .code y_Store_oldestKeptStamp b_Store_oldestKeptStamp 7 (some .int) :: w_all
theorem d_Store_oldestKeptStamp_0 : decode b_Store_oldestKeptStamp 0 = .ok (.iconst 0, 1) := by decide +kernel
theorem d_Store_oldestKeptStamp_1 : decode b_Store_oldestKeptStamp 1 = .ok (.istore_n 3, 1) := by decide +kernel
theorem d_Store_oldestKeptStamp_2 : decode b_Store_oldestKeptStamp 2 = .ok (.iconst 0, 1) := by decide +kernel
theorem d_Store_oldestKeptStamp_3 : decode b_Store_oldestKeptStamp 3 = .ok (.istore 4, 2) := by decide +kernel
theorem d_Store_oldestKeptStamp_5 : decode b_Store_oldestKeptStamp 5 = .ok (.aload_n 1, 1) := by decide +kernel
theorem d_Store_oldestKeptStamp_6 : decode b_Store_oldestKeptStamp 6 = .ok (.getfield 113, 3) := by decide +kernel
theorem d_Store_oldestKeptStamp_9 : decode b_Store_oldestKeptStamp 9 = .ok (.iconst 1, 1) := by decide +kernel
theorem d_Store_oldestKeptStamp_10 : decode b_Store_oldestKeptStamp 10 = .ok (.isub, 1) := by decide +kernel
theorem d_Store_oldestKeptStamp_11 : decode b_Store_oldestKeptStamp 11 = .ok (.istore 5, 2) := by decide +kernel
theorem d_Store_oldestKeptStamp_13 : decode b_Store_oldestKeptStamp 13 = .ok (.iload 5, 2) := by decide +kernel
theorem d_Store_oldestKeptStamp_15 : decode b_Store_oldestKeptStamp 15 = .ok (.ifCond .lt 40, 3) := by decide +kernel
theorem d_Store_oldestKeptStamp_18 : decode b_Store_oldestKeptStamp 18 = .ok (.aload_n 0, 1) := by decide +kernel
theorem d_Store_oldestKeptStamp_19 : decode b_Store_oldestKeptStamp 19 = .ok (.aload_n 1, 1) := by decide +kernel
theorem d_Store_oldestKeptStamp_20 : decode b_Store_oldestKeptStamp 20 = .ok (.iload 5, 2) := by decide +kernel
theorem d_Store_oldestKeptStamp_22 : decode b_Store_oldestKeptStamp 22 = .ok (.iload_n 2, 1) := by decide +kernel
theorem d_Store_oldestKeptStamp_23 : decode b_Store_oldestKeptStamp 23 = .ok (.invokevirtual 282, 3) := by decide +kernel
theorem d_Store_oldestKeptStamp_26 : decode b_Store_oldestKeptStamp 26 = .ok (.istore 6, 2) := by decide +kernel
theorem d_Store_oldestKeptStamp_28 : decode b_Store_oldestKeptStamp 28 = .ok (.iload 6, 2) := by decide +kernel
theorem d_Store_oldestKeptStamp_30 : decode b_Store_oldestKeptStamp 30 = .ok (.iconst (-1), 1) := by decide +kernel
theorem d_Store_oldestKeptStamp_31 : decode b_Store_oldestKeptStamp 31 = .ok (.if_icmp .ne 6, 3) := by decide +kernel
theorem d_Store_oldestKeptStamp_34 : decode b_Store_oldestKeptStamp 34 = .ok (.goto 15, 3) := by decide +kernel
theorem d_Store_oldestKeptStamp_37 : decode b_Store_oldestKeptStamp 37 = .ok (.iinc 3 1, 3) := by decide +kernel
theorem d_Store_oldestKeptStamp_40 : decode b_Store_oldestKeptStamp 40 = .ok (.iload_n 3, 1) := by decide +kernel
theorem d_Store_oldestKeptStamp_41 : decode b_Store_oldestKeptStamp 41 = .ok (.iconst 3, 1) := by decide +kernel
theorem d_Store_oldestKeptStamp_42 : decode b_Store_oldestKeptStamp 42 = .ok (.if_icmp .ne 7, 3) := by decide +kernel
theorem d_Store_oldestKeptStamp_45 : decode b_Store_oldestKeptStamp 45 = .ok (.iload 6, 2) := by decide +kernel
theorem d_Store_oldestKeptStamp_47 : decode b_Store_oldestKeptStamp 47 = .ok (.istore 4, 2) := by decide +kernel
theorem d_Store_oldestKeptStamp_49 : decode b_Store_oldestKeptStamp 49 = .ok (.iinc 5 (-1), 3) := by decide +kernel
theorem d_Store_oldestKeptStamp_52 : decode b_Store_oldestKeptStamp 52 = .ok (.goto (-39), 3) := by decide +kernel
theorem d_Store_oldestKeptStamp_55 : decode b_Store_oldestKeptStamp 55 = .ok (.iload_n 3, 1) := by decide +kernel
theorem d_Store_oldestKeptStamp_56 : decode b_Store_oldestKeptStamp 56 = .ok (.iconst 3, 1) := by decide +kernel
theorem d_Store_oldestKeptStamp_57 : decode b_Store_oldestKeptStamp 57 = .ok (.if_icmp .le 8, 3) := by decide +kernel
theorem d_Store_oldestKeptStamp_60 : decode b_Store_oldestKeptStamp 60 = .ok (.iload 4, 2) := by decide +kernel
theorem d_Store_oldestKeptStamp_62 : decode b_Store_oldestKeptStamp 62 = .ok (.goto 4, 3) := by decide +kernel
theorem d_Store_oldestKeptStamp_65 : decode b_Store_oldestKeptStamp 65 = .ok (.iconst 0, 1) := by decide +kernel
theorem d_Store_oldestKeptStamp_66 : decode b_Store_oldestKeptStamp 66 = .ok (.ireturn, 1) := by decide +kernel
def B_Store_oldestKeptStamp_49 (R : Nat → Nat → Nat) (I : St) (k13 : Nat → Nat → Int32 → Int32 → Int32 → Int32 → Option Int32) (a0 : Nat) (a1 : Nat) (x2 : Int32) (x3 : Int32) (x4 : Int32) (x5 : Int32) : Option Int32 := k13 a0 a1 x2 x3 x4 (x5 + (-1))
set_option maxHeartbeats 4000000 in
set_option maxRecDepth 100000 in
theorem b_Store_oldestKeptStamp_49 {p : Program} {l : Launch} {e : Env} {s : State} {m : MethodId} {args : Array Value} {below : List Frame} {meth : Method} {c : Code} {g : Sg} {R : Nat → Nat → Nat} {I : St} {v : Int32} (cx : Cx p s m args meth c g R R_Store b_Store_oldestKeptStamp 7 (some .int)) {k13 : Nat → Nat → Int32 → Int32 → Int32 → Int32 → Option Int32} (hk13 : ∀ (a0 : Nat) (a1 : Nat) (x2 : Int32) (x3 : Int32) (x4 : Int32) (x5 : Int32) (H : Heap) (locs : List Loc) (ls : Array Slot), okA g 4 0 a0 → okA g 1 0 a1 → k13 a0 a1 x2 x3 x4 x5 = some v → wW g R I H → va_S (· ∈ g.L) s.heap H locs → lv_has ls 7 [(0, .ref a0), (1, .ref a1), (2, .int x2), (3, .int x3), (4, .int x4), (5, .int x5)] → W p l e { frames := 2, cells := 0, slots := 0, locals := 45 } s m args below meth c H locs 0 0 (MQ below (Qi g R v I) args s 0 0 (· ∈ g.L)) (F0 m 13 ls [])) : ∀ (a0 : Nat) (a1 : Nat) (x2 : Int32) (x3 : Int32) (x4 : Int32) (x5 : Int32) (H : Heap) (locs : List Loc) (ls : Array Slot), okA g 4 0 a0 → okA g 1 0 a1 → B_Store_oldestKeptStamp_49 R I k13 a0 a1 x2 x3 x4 x5 = some v → wW g R I H → va_S (· ∈ g.L) s.heap H locs → lv_has ls 7 [(0, .ref a0), (1, .ref a1), (2, .int x2), (3, .int x3), (4, .int x4), (5, .int x5)] → W p l e { frames := 2, cells := 0, slots := 0, locals := 45 } s m args below meth c H locs 0 0 (MQ below (Qi g R v I) args s 0 0 (· ∈ g.L)) (F0 m 49 ls []) := by
  have ⟨hx, hb, hml, hr, hlk, hown, hall, hT, hK⟩ := cx
  intro a0 a1 x2 x3 x4 x5 H locs ls o0 o1 h hP hS hl
  unfold B_Store_oldestKeptStamp_49 at h
  refine lv_iinc (k := 5) (v := (x5 + (-1))) (lv' := [(5, .int (x5 + (-1))), (0, .ref a0), (1, .ref a1), (2, .int x2), (3, .int x3), (4, .int x4)]) hx hb d_Store_oldestKeptStamp_49 hl rfl (by rw [show Int32.ofInt (-1) = (-1 : Int32) from by decide]) (Nat.le_of_ble_eq_true rfl) rfl (fun ls hl => ?_)
  refine lv_goto hx hb d_Store_oldestKeptStamp_52 rfl ?_
  exact hk13 _ _ _ _ _ _ _ _ _ o0 o1 h hP hS (lv_sub hl [1, 2, 3, 4, 5, 0] rfl)
def B_Store_oldestKeptStamp_13 (R : Nat → Nat → Nat) (I : St) : Nat → Nat → Nat → Int32 → Int32 → Int32 → Int32 → Option Int32
  | 0, _, _, _, _, _, _ => none
  | f + 1, a0, a1, x2, x3, x4, x5 => (if x5 < 0 then (if x3 ≤ (3 : Int32) then some (0 : Int32) else some x4) else (ob (F_Store_versionStamp R a0 a1 x5 x2 I) (fun v23 => (if v23 = (-1 : Int32) then B_Store_oldestKeptStamp_49 R I (B_Store_oldestKeptStamp_13 R I f) a0 a1 x2 x3 x4 x5 else (if (x3 + 1) = (3 : Int32) then B_Store_oldestKeptStamp_49 R I (B_Store_oldestKeptStamp_13 R I f) a0 a1 x2 (x3 + 1) v23 x5 else B_Store_oldestKeptStamp_49 R I (B_Store_oldestKeptStamp_13 R I f) a0 a1 x2 (x3 + 1) x4 x5)))))
set_option maxHeartbeats 4000000 in
set_option maxRecDepth 100000 in
theorem b_Store_oldestKeptStamp_13 {p : Program} {l : Launch} {e : Env} {s : State} {m : MethodId} {args : Array Value} {below : List Frame} {meth : Method} {c : Code} {g : Sg} {R : Nat → Nat → Nat} {I : St} {v : Int32} (cx : Cx p s m args meth c g R R_Store b_Store_oldestKeptStamp 7 (some .int)) (f : Nat) : ∀ (a0 : Nat) (a1 : Nat) (x2 : Int32) (x3 : Int32) (x4 : Int32) (x5 : Int32) (H : Heap) (locs : List Loc) (ls : Array Slot), okA g 4 0 a0 → okA g 1 0 a1 → B_Store_oldestKeptStamp_13 R I f a0 a1 x2 x3 x4 x5 = some v → wW g R I H → va_S (· ∈ g.L) s.heap H locs → lv_has ls 7 [(0, .ref a0), (1, .ref a1), (2, .int x2), (3, .int x3), (4, .int x4), (5, .int x5)] → W p l e { frames := 2, cells := 0, slots := 0, locals := 45 } s m args below meth c H locs 0 0 (MQ below (Qi g R v I) args s 0 0 (· ∈ g.L)) (F0 m 13 ls []) := by
  have ⟨hx, hb, hml, hr, hlk, hown, hall, hT, hK⟩ := cx
  induction f with
  | zero => intro a0 a1 x2 x3 x4 x5 H locs ls o0 o1 h; unfold B_Store_oldestKeptStamp_13 at h; cases h
  | succ f ih =>
    intro a0 a1 x2 x3 x4 x5 H locs ls o0 o1 h hP hS hl
    unfold B_Store_oldestKeptStamp_13 at h
    refine lv_iload hx hb d_Store_oldestKeptStamp_13 (lv_at hl 5 rfl) ?_
    refine lv_if_lt hx hb d_Store_oldestKeptStamp_15 rfl (fun hc => ?_) (fun hc => ?_)
    · replace h := i_pos hc h
      refine lv_iload_n hx hb d_Store_oldestKeptStamp_55 rfl (lv_at hl 3 rfl) ?_
      refine lv_iconst (v := 3) hx hb d_Store_oldestKeptStamp_56 (by decide) ?_
      refine lv_icmp_le hx hb d_Store_oldestKeptStamp_57 rfl (fun hc => ?_) (fun hc => ?_)
      · replace h := i_pos hc h
        refine lv_iconst (v := 0) hx hb d_Store_oldestKeptStamp_65 (by decide) ?_
        obtain rfl := Option.some.inj h
        exact gg_iret hx hb hr hlk hK hP hS d_Store_oldestKeptStamp_66
      · replace h := i_neg hc h
        refine lv_iload hx hb d_Store_oldestKeptStamp_60 (lv_at hl 4 rfl) ?_
        refine lv_goto hx hb d_Store_oldestKeptStamp_62 rfl ?_
        obtain rfl := Option.some.inj h
        exact gg_iret hx hb hr hlk hK hP hS d_Store_oldestKeptStamp_66
    · replace h := i_neg hc h
      refine lv_aload_n hx hb d_Store_oldestKeptStamp_18 rfl (lv_at hl 0 rfl) ?_
      refine lv_aload_n hx hb d_Store_oldestKeptStamp_19 rfl (lv_at hl 1 rfl) ?_
      refine lv_iload hx hb d_Store_oldestKeptStamp_20 (lv_at hl 5 rfl) ?_
      refine lv_iload_n hx hb d_Store_oldestKeptStamp_22 rfl (lv_at hl 2 rfl) ?_
      obtain ⟨v23, e23, h⟩ := ob_el h
      refine gg_Vi (As := [.ref a1, .int x5, .int x2]) (rest := []) (ci := 4) (C := R_Store) (T := F_Store) (N := 4) ⟨hx, hb, hml, hown, hall⟩ (c_Store_versionStamp l hT o0 o1 e23) (cwV 3 hall (gV m_222 m_223 m_224 m_6 m_221) rfl rfl rfl (by decide +kernel) ⟨Nat.le_of_ble_eq_true rfl, Nat.le_of_ble_eq_true rfl⟩) hK hP hS o0.1 (wE_4 o0.2) rfl rfl hl.1 rfl (Nat.le_of_ble_eq_true rfl) d_Store_oldestKeptStamp_23 (fun H locs hP hS => ?_)
      refine lv_istore (lv' := [(6, .int v23), (0, .ref a0), (1, .ref a1), (2, .int x2), (3, .int x3), (4, .int x4), (5, .int x5)]) hx hb d_Store_oldestKeptStamp_26 hl (Nat.le_of_ble_eq_true rfl) rfl (fun ls hl => ?_)
      refine lv_iload hx hb d_Store_oldestKeptStamp_28 (lv_at hl 0 rfl) ?_
      refine lv_iconst (v := (-1)) hx hb d_Store_oldestKeptStamp_30 (by decide) ?_
      refine lv_icmp_ne hx hb d_Store_oldestKeptStamp_31 rfl (fun hc => ?_) (fun hc => ?_)
      · replace h := i_neg hc h
        refine lv_iinc (k := 4) (v := (x3 + 1)) (lv' := [(3, .int (x3 + 1)), (6, .int v23), (0, .ref a0), (1, .ref a1), (2, .int x2), (4, .int x4), (5, .int x5)]) hx hb d_Store_oldestKeptStamp_37 hl rfl (by rw [show Int32.ofInt 1 = (1 : Int32) from by decide]) (Nat.le_of_ble_eq_true rfl) rfl (fun ls hl => ?_)
        refine lv_iload_n hx hb d_Store_oldestKeptStamp_40 rfl (lv_at hl 0 rfl) ?_
        refine lv_iconst (v := 3) hx hb d_Store_oldestKeptStamp_41 (by decide) ?_
        refine lv_icmp_ne hx hb d_Store_oldestKeptStamp_42 rfl (fun hc => ?_) (fun hc => ?_)
        · replace h := i_neg hc h
          exact b_Store_oldestKeptStamp_49 cx ih _ _ _ _ _ _ _ _ _ o0 o1 h hP hS (lv_sub hl [2, 3, 4, 0, 5, 6] rfl)
        · replace h := i_pos hc h
          refine lv_iload hx hb d_Store_oldestKeptStamp_45 (lv_at hl 1 rfl) ?_
          refine lv_istore (lv' := [(4, .int v23), (3, .int (x3 + 1)), (6, .int v23), (0, .ref a0), (1, .ref a1), (2, .int x2), (5, .int x5)]) hx hb d_Store_oldestKeptStamp_47 hl (Nat.le_of_ble_eq_true rfl) rfl (fun ls hl => ?_)
          exact b_Store_oldestKeptStamp_49 cx ih _ _ _ _ _ _ _ _ _ o0 o1 h hP hS (lv_sub hl [3, 4, 5, 1, 0, 6] rfl)
      · replace h := i_pos hc h
        refine lv_goto hx hb d_Store_oldestKeptStamp_34 rfl ?_
        exact b_Store_oldestKeptStamp_49 cx ih _ _ _ _ _ _ _ _ _ o0 o1 h hP hS (lv_sub hl [1, 2, 3, 4, 5, 6] rfl)
def F_Store_oldestKeptStamp (R : Nat → Nat → Nat) (a0 : Nat) (a1 : Nat) (x2 : Int32) (I : St) : Option Int32 := B_Store_oldestKeptStamp_13 R I 100 a0 a1 x2 (0 : Int32) (0 : Int32) ((I a1 6) - (1 : Int32))
set_option maxHeartbeats 4000000 in
set_option maxRecDepth 100000 in
theorem c_Store_oldestKeptStamp (l : Launch) {g : Sg} {R : Nat → Nat → Nat} (hT : Ty g R) {a0 : Nat} (o0 : okA g 4 0 a0) {a1 : Nat} (o1 : okA g 1 0 a1) {x2 : Int32} {I : St} {v : Int32} (h : F_Store_oldestKeptStamp R a0 a1 x2 I = some v) : Cti l g R y_Store_oldestKeptStamp w_Store_oldestKeptStamp 2 45 [.ref a0, .ref a1, .int x2] I v I := by
  unfold Cti
  refine Met.ofW (cc := b_Store_oldestKeptStamp) (maxL := 7) (ret := (some .int)) (by decide) rfl ?_
  intro p e s m args below meth c s₁ B hml hv
  obtain ⟨rfl, hP, hK⟩ := hv
  have hts := atoms_spec (ws := w_Store_oldestKeptStamp) B.pre
  have hall : ∀ w ∈ w_all, w.before _ s = true := fun w hw => hts w (List.mem_cons_of_mem _ hw)
  have hown : s.vm.findClass R_Store = some m.cls := findClass_of_methodNamed B.named
  have hx := B.exec
  have hb := B.bytes
  have hr := B.returns
  have hlk := B.notSynchronized
  have cx : Cx p s m _ meth c g R R_Store b_Store_oldestKeptStamp 7 (some .int) := ⟨hx, hb, hml, hr, hlk, hown, hall, hT, hK⟩
  have hl := lv_entry ([.ref a0, .ref a1, .int x2]) (n := 7) (Nat.le_of_ble_eq_true rfl)
  rw [lg_entry_eq]
  generalize (lg_sl ([.ref a0, .ref a1, .int x2]) ++ List.replicate (7 - (lg_sl ([.ref a0, .ref a1, .int x2])).length) Slot.unset).toArray = ls at hl ⊢
  have hl : lv_has ls 7 [(0, .ref a0), (1, .ref a1), (2, .int x2)] := hl
  have hS : va_S (· ∈ g.L) s.heap s.heap [] := va_S.rf
  unfold F_Store_oldestKeptStamp at h
  refine lv_iconst (v := 0) hx hb d_Store_oldestKeptStamp_0 (by decide) ?_
  refine lv_istore_n (lv' := [(3, .int (0 : Int32)), (0, .ref a0), (1, .ref a1), (2, .int x2)]) hx hb d_Store_oldestKeptStamp_1 rfl hl (Nat.le_of_ble_eq_true rfl) rfl (fun ls hl => ?_)
  refine lv_iconst (v := 0) hx hb d_Store_oldestKeptStamp_2 (by decide) ?_
  refine lv_istore (lv' := [(4, .int (0 : Int32)), (3, .int (0 : Int32)), (0, .ref a0), (1, .ref a1), (2, .int x2)]) hx hb d_Store_oldestKeptStamp_3 hl (Nat.le_of_ble_eq_true rfl) rfl (fun ls hl => ?_)
  refine lv_aload_n hx hb d_Store_oldestKeptStamp_5 rfl (lv_at hl 3 rfl) ?_
  refine gg_get (C := R_Log) (T := F_Log) (N := 7) (ci := 1) hx hb hall i_Log hown hK hP o1.1 (wE_1 o1.2) rfl 6 (by decide) (hall _ m_156) (fun _ h9 => h9) rfl d_Store_oldestKeptStamp_6 ?_
  refine lv_iconst (v := 1) hx hb d_Store_oldestKeptStamp_9 (by decide) ?_
  refine lv_isub hx hb d_Store_oldestKeptStamp_10 ?_
  refine lv_istore (lv' := [(5, .int ((I a1 6) - (1 : Int32))), (4, .int (0 : Int32)), (3, .int (0 : Int32)), (0, .ref a0), (1, .ref a1), (2, .int x2)]) hx hb d_Store_oldestKeptStamp_11 hl (Nat.le_of_ble_eq_true rfl) rfl (fun ls hl => ?_)
  exact b_Store_oldestKeptStamp_13 cx 100 _ _ _ _ _ _ _ _ _ o0 o1 h hP hS (lv_sub hl [3, 4, 5, 2, 1, 0] rfl)
abbrev b_Store_snapshot : ByteArray := prog_1_method_17_code
def y_Store_snapshot : MethodName := ⟨"StampedStore", "snapshot", "(III)I"⟩
def w_Store_snapshot : List Cond := .code y_Store_snapshot b_Store_snapshot 5 (some .int) :: w_all
theorem d_Store_snapshot_0 : decode b_Store_snapshot 0 = .ok (.iload_n 1, 1) := by decide +kernel
theorem d_Store_snapshot_1 : decode b_Store_snapshot 1 = .ok (.invokestatic 38, 3) := by decide +kernel
theorem d_Store_snapshot_4 : decode b_Store_snapshot 4 = .ok (.ifCond .eq 21, 3) := by decide +kernel
theorem d_Store_snapshot_7 : decode b_Store_snapshot 7 = .ok (.iload_n 2, 1) := by decide +kernel
theorem d_Store_snapshot_8 : decode b_Store_snapshot 8 = .ok (.invokestatic 125, 3) := by decide +kernel
theorem d_Store_snapshot_11 : decode b_Store_snapshot 11 = .ok (.ifCond .eq 14, 3) := by decide +kernel
theorem d_Store_snapshot_14 : decode b_Store_snapshot 14 = .ok (.iload_n 2, 1) := by decide +kernel
theorem d_Store_snapshot_15 : decode b_Store_snapshot 15 = .ok (.invokestatic 138, 3) := by decide +kernel
theorem d_Store_snapshot_18 : decode b_Store_snapshot 18 = .ok (.iload_n 1, 1) := by decide +kernel
theorem d_Store_snapshot_19 : decode b_Store_snapshot 19 = .ok (.invokestatic 90, 3) := by decide +kernel
theorem d_Store_snapshot_22 : decode b_Store_snapshot 22 = .ok (.if_icmp .eq 5, 3) := by decide +kernel
theorem d_Store_snapshot_25 : decode b_Store_snapshot 25 = .ok (.iconst (-1), 1) := by decide +kernel
theorem d_Store_snapshot_26 : decode b_Store_snapshot 26 = .ok (.ireturn, 1) := by decide +kernel
theorem d_Store_snapshot_27 : decode b_Store_snapshot 27 = .ok (.aload_n 0, 1) := by decide +kernel
theorem d_Store_snapshot_28 : decode b_Store_snapshot 28 = .ok (.getfield 11, 3) := by decide +kernel
theorem d_Store_snapshot_31 : decode b_Store_snapshot 31 = .ok (.iload_n 1, 1) := by decide +kernel
theorem d_Store_snapshot_32 : decode b_Store_snapshot 32 = .ok (.aaload, 1) := by decide +kernel
theorem d_Store_snapshot_33 : decode b_Store_snapshot 33 = .ok (.getfield 48, 3) := by decide +kernel
theorem d_Store_snapshot_36 : decode b_Store_snapshot 36 = .ok (.ifCond .eq 7, 3) := by decide +kernel
theorem d_Store_snapshot_39 : decode b_Store_snapshot 39 = .ok (.iload_n 3, 1) := by decide +kernel
theorem d_Store_snapshot_40 : decode b_Store_snapshot 40 = .ok (.ifCond .ge 5, 3) := by decide +kernel
theorem d_Store_snapshot_43 : decode b_Store_snapshot 43 = .ok (.iconst (-1), 1) := by decide +kernel
theorem d_Store_snapshot_44 : decode b_Store_snapshot 44 = .ok (.ireturn, 1) := by decide +kernel
theorem d_Store_snapshot_45 : decode b_Store_snapshot 45 = .ok (.aload_n 0, 1) := by decide +kernel
theorem d_Store_snapshot_46 : decode b_Store_snapshot 46 = .ok (.getfield 11, 3) := by decide +kernel
theorem d_Store_snapshot_49 : decode b_Store_snapshot 49 = .ok (.iload_n 1, 1) := by decide +kernel
theorem d_Store_snapshot_50 : decode b_Store_snapshot 50 = .ok (.aaload, 1) := by decide +kernel
theorem d_Store_snapshot_51 : decode b_Store_snapshot 51 = .ok (.getfield 97, 3) := by decide +kernel
theorem d_Store_snapshot_54 : decode b_Store_snapshot 54 = .ok (.astore 4, 2) := by decide +kernel
theorem d_Store_snapshot_56 : decode b_Store_snapshot 56 = .ok (.iload_n 3, 1) := by decide +kernel
theorem d_Store_snapshot_57 : decode b_Store_snapshot 57 = .ok (.aload 4, 2) := by decide +kernel
theorem d_Store_snapshot_59 : decode b_Store_snapshot 59 = .ok (.invokevirtual 194, 3) := by decide +kernel
theorem d_Store_snapshot_62 : decode b_Store_snapshot 62 = .ok (.if_icmp .le 6, 3) := by decide +kernel
theorem d_Store_snapshot_65 : decode b_Store_snapshot 65 = .ok (.bipush (-4), 2) := by decide +kernel
theorem d_Store_snapshot_67 : decode b_Store_snapshot 67 = .ok (.ireturn, 1) := by decide +kernel
theorem d_Store_snapshot_68 : decode b_Store_snapshot 68 = .ok (.iload_n 3, 1) := by decide +kernel
theorem d_Store_snapshot_69 : decode b_Store_snapshot 69 = .ok (.aload_n 0, 1) := by decide +kernel
theorem d_Store_snapshot_70 : decode b_Store_snapshot 70 = .ok (.aload 4, 2) := by decide +kernel
theorem d_Store_snapshot_72 : decode b_Store_snapshot 72 = .ok (.iload_n 2, 1) := by decide +kernel
theorem d_Store_snapshot_73 : decode b_Store_snapshot 73 = .ok (.invokevirtual 197, 3) := by decide +kernel
theorem d_Store_snapshot_76 : decode b_Store_snapshot 76 = .ok (.if_icmp .ge 6, 3) := by decide +kernel
theorem d_Store_snapshot_79 : decode b_Store_snapshot 79 = .ok (.bipush (-8), 2) := by decide +kernel
theorem d_Store_snapshot_81 : decode b_Store_snapshot 81 = .ok (.ireturn, 1) := by decide +kernel
theorem d_Store_snapshot_82 : decode b_Store_snapshot 82 = .ok (.aload_n 0, 1) := by decide +kernel
theorem d_Store_snapshot_83 : decode b_Store_snapshot 83 = .ok (.aload 4, 2) := by decide +kernel
theorem d_Store_snapshot_85 : decode b_Store_snapshot 85 = .ok (.iload_n 2, 1) := by decide +kernel
theorem d_Store_snapshot_86 : decode b_Store_snapshot 86 = .ok (.iload_n 3, 1) := by decide +kernel
theorem d_Store_snapshot_87 : decode b_Store_snapshot 87 = .ok (.invokevirtual 157, 3) := by decide +kernel
theorem d_Store_snapshot_90 : decode b_Store_snapshot 90 = .ok (.ireturn, 1) := by decide +kernel
def B_Store_snapshot_25 (R : Nat → Nat → Nat) (I : St) : Option Int32 := some (-1 : Int32)
set_option maxHeartbeats 4000000 in
set_option maxRecDepth 100000 in
theorem b_Store_snapshot_25 {p : Program} {l : Launch} {e : Env} {s : State} {m : MethodId} {args : Array Value} {below : List Frame} {meth : Method} {c : Code} {g : Sg} {R : Nat → Nat → Nat} {I : St} {v : Int32} (cx : Cx p s m args meth c g R R_Store b_Store_snapshot 5 (some .int)) : ∀ (H : Heap) (locs : List Loc) (ls : Array Slot), B_Store_snapshot_25 R I = some v → wW g R I H → va_S (· ∈ g.L) s.heap H locs → lv_has ls 5 [] → W p l e { frames := 4, cells := 0, slots := 0, locals := 89 } s m args below meth c H locs 0 0 (MQ below (Qi g R v I) args s 0 0 (· ∈ g.L)) (F0 m 25 ls []) := by
  have ⟨hx, hb, hml, hr, hlk, hown, hall, hT, hK⟩ := cx
  intro H locs ls h hP hS hl
  unfold B_Store_snapshot_25 at h
  refine lv_iconst (v := (-1)) hx hb d_Store_snapshot_25 (by decide) ?_
  obtain rfl := Option.some.inj h
  exact gg_iret hx hb hr hlk hK hP hS d_Store_snapshot_26
def B_Store_snapshot_43 (R : Nat → Nat → Nat) (I : St) : Option Int32 := some (-1 : Int32)
set_option maxHeartbeats 4000000 in
set_option maxRecDepth 100000 in
theorem b_Store_snapshot_43 {p : Program} {l : Launch} {e : Env} {s : State} {m : MethodId} {args : Array Value} {below : List Frame} {meth : Method} {c : Code} {g : Sg} {R : Nat → Nat → Nat} {I : St} {v : Int32} (cx : Cx p s m args meth c g R R_Store b_Store_snapshot 5 (some .int)) : ∀ (H : Heap) (locs : List Loc) (ls : Array Slot), B_Store_snapshot_43 R I = some v → wW g R I H → va_S (· ∈ g.L) s.heap H locs → lv_has ls 5 [] → W p l e { frames := 4, cells := 0, slots := 0, locals := 89 } s m args below meth c H locs 0 0 (MQ below (Qi g R v I) args s 0 0 (· ∈ g.L)) (F0 m 43 ls []) := by
  have ⟨hx, hb, hml, hr, hlk, hown, hall, hT, hK⟩ := cx
  intro H locs ls h hP hS hl
  unfold B_Store_snapshot_43 at h
  refine lv_iconst (v := (-1)) hx hb d_Store_snapshot_43 (by decide) ?_
  obtain rfl := Option.some.inj h
  exact gg_iret hx hb hr hlk hK hP hS d_Store_snapshot_44
def F_Store_snapshot (R : Nat → Nat → Nat) (a0 : Nat) (x1 : Int32) (x2 : Int32) (x3 : Int32) (I : St) : Option Int32 := (ob (F_Store_isNode R x1 I) (fun v1 => (if v1 = 0 then B_Store_snapshot_25 R I else (ob (F_Store_isKey R x2 I) (fun v8 => (if v8 = 0 then B_Store_snapshot_25 R I else (ob (F_Store_groupOfKey R x2 I) (fun v15 => (ob (F_Store_groupOfNode R x1 I) (fun v19 => (if v15 = v19 then (chk x1 6 ((if (I (R (R a0 1) x1.toNatClampNeg) 3) = 0 then B_Store_snapshot_43 R I else (if 0 ≤ x3 then (chk x1 6 ((ob (F_Log_safeStamp R (R (R (R a0 1) x1.toNatClampNeg) 2) I) (fun v59 => (if x3 ≤ v59 then (ob (F_Store_oldestKeptStamp R a0 (R (R (R a0 1) x1.toNatClampNeg) 2) x2 I) (fun v73 => (if v73 ≤ x3 then (ob (F_Store_valueAt R a0 (R (R (R a0 1) x1.toNatClampNeg) 2) x2 x3 I) (fun v87 => some v87)) else some (-8 : Int32)))) else some (-4 : Int32)))))) else B_Store_snapshot_43 R I)))) else B_Store_snapshot_25 R I)))))))))))
set_option maxHeartbeats 4000000 in
set_option maxRecDepth 100000 in
theorem c_Store_snapshot (l : Launch) {g : Sg} {R : Nat → Nat → Nat} (hT : Ty g R) {a0 : Nat} (o0 : okA g 4 0 a0) {x1 : Int32} {x2 : Int32} {x3 : Int32} {I : St} {v : Int32} (h : F_Store_snapshot R a0 x1 x2 x3 I = some v) : Cti l g R y_Store_snapshot w_Store_snapshot 4 89 [.ref a0, .int x1, .int x2, .int x3] I v I := by
  unfold Cti
  refine Met.ofW (cc := b_Store_snapshot) (maxL := 5) (ret := (some .int)) (by decide) rfl ?_
  intro p e s m args below meth c s₁ B hml hv
  obtain ⟨rfl, hP, hK⟩ := hv
  have hts := atoms_spec (ws := w_Store_snapshot) B.pre
  have hall : ∀ w ∈ w_all, w.before _ s = true := fun w hw => hts w (List.mem_cons_of_mem _ hw)
  have hown : s.vm.findClass R_Store = some m.cls := findClass_of_methodNamed B.named
  have hx := B.exec
  have hb := B.bytes
  have hr := B.returns
  have hlk := B.notSynchronized
  have cx : Cx p s m _ meth c g R R_Store b_Store_snapshot 5 (some .int) := ⟨hx, hb, hml, hr, hlk, hown, hall, hT, hK⟩
  have hl := lv_entry ([.ref a0, .int x1, .int x2, .int x3]) (n := 5) (Nat.le_of_ble_eq_true rfl)
  rw [lg_entry_eq]
  generalize (lg_sl ([.ref a0, .int x1, .int x2, .int x3]) ++ List.replicate (5 - (lg_sl ([.ref a0, .int x1, .int x2, .int x3])).length) Slot.unset).toArray = ls at hl ⊢
  have hl : lv_has ls 5 [(0, .ref a0), (1, .int x1), (2, .int x2), (3, .int x3)] := hl
  have hS : va_S (· ∈ g.L) s.heap s.heap [] := va_S.rf
  unfold F_Store_snapshot at h
  refine lv_iload_n hx hb d_Store_snapshot_0 rfl (lv_at hl 1 rfl) ?_
  obtain ⟨v1, e1, h⟩ := ob_el h
  refine gg_Si (As := [.int x1]) (rest := []) ⟨hx, hb, hml, hown, hall⟩ (c_Store_isNode l hT e1) (cwS 1 hall (gS m_4 m_5 m_6 m_3) rfl rfl rfl (by decide +kernel) ⟨Nat.le_of_ble_eq_true rfl, Nat.le_of_ble_eq_true rfl⟩) hK hP hS rfl hl.1 rfl (Nat.le_of_ble_eq_true rfl) d_Store_snapshot_1 (fun H locs hP hS => ?_)
  refine lv_if_eq hx hb d_Store_snapshot_4 rfl (fun hc => ?_) (fun hc => ?_)
  · replace h := i_pos hc h
    exact b_Store_snapshot_25 cx _ _ _ h hP hS (lv_sub hl [] rfl)
  · replace h := i_neg hc h
    refine lv_iload_n hx hb d_Store_snapshot_7 rfl (lv_at hl 2 rfl) ?_
    obtain ⟨v8, e8, h⟩ := ob_el h
    refine gg_Si (As := [.int x2]) (rest := []) ⟨hx, hb, hml, hown, hall⟩ (c_Store_isKey l hT e8) (cwS 1 hall (gS m_227 m_228 m_6 m_161) rfl rfl rfl (by decide +kernel) ⟨Nat.le_of_ble_eq_true rfl, Nat.le_of_ble_eq_true rfl⟩) hK hP hS rfl hl.1 rfl (Nat.le_of_ble_eq_true rfl) d_Store_snapshot_8 (fun H locs hP hS => ?_)
    refine lv_if_eq hx hb d_Store_snapshot_11 rfl (fun hc => ?_) (fun hc => ?_)
    · replace h := i_pos hc h
      exact b_Store_snapshot_25 cx _ _ _ h hP hS (lv_sub hl [] rfl)
    · replace h := i_neg hc h
      refine lv_iload_n hx hb d_Store_snapshot_14 rfl (lv_at hl 2 rfl) ?_
      obtain ⟨v15, e15, h⟩ := ob_el h
      refine gg_Si (As := [.int x2]) (rest := []) ⟨hx, hb, hml, hown, hall⟩ (c_Store_groupOfKey l hT e15) (cwS 1 hall (gS m_230 m_211 m_6 m_164) rfl rfl rfl (by decide +kernel) ⟨Nat.le_of_ble_eq_true rfl, Nat.le_of_ble_eq_true rfl⟩) hK hP hS rfl hl.1 rfl (Nat.le_of_ble_eq_true rfl) d_Store_snapshot_15 (fun H locs hP hS => ?_)
      refine lv_iload_n hx hb d_Store_snapshot_18 rfl (lv_at hl 1 rfl) ?_
      obtain ⟨v19, e19, h⟩ := ob_el h
      refine gg_Si (As := [.int x1]) (rest := [.int v15]) ⟨hx, hb, hml, hown, hall⟩ (c_Store_groupOfNode l hT e19) (cwS 1 hall (gS m_24 m_25 m_6 m_22) rfl rfl rfl (by decide +kernel) ⟨Nat.le_of_ble_eq_true rfl, Nat.le_of_ble_eq_true rfl⟩) hK hP hS rfl hl.1 rfl (Nat.le_of_ble_eq_true rfl) d_Store_snapshot_19 (fun H locs hP hS => ?_)
      refine lv_icmp_eq hx hb d_Store_snapshot_22 rfl (fun hc => ?_) (fun hc => ?_)
      · replace h := i_pos hc h
        refine lv_aload_n hx hb d_Store_snapshot_27 rfl (lv_at hl 0 rfl) ?_
        refine gg_get (C := R_Store) (T := F_Store) (N := 4) (ci := 4) hx hb hall i_Store hown hK hP o0.1 (wE_4 o0.2) rfl 1 (by decide) (hall _ m_8) (fun _ h9 => h9) rfl d_Store_snapshot_28 ?_
        have o_28 : okA g 8 6 (R a0 1) := ty_Store_1 hT o0
        refine lv_iload_n hx hb d_Store_snapshot_31 rfl (lv_at hl 1 rfl) ?_
        obtain ⟨hi32, h⟩ := chk_el h
        refine gg_nald hx hb hK hP o_28 hi32 d_Store_snapshot_32 ?_
        have o_32 : okA g 2 0 (R (R a0 1) x1.toNatClampNeg) := ty_8 hT o_28 _
        refine gg_get (C := R_Node) (T := F_Node) (N := 10) (ci := 2) hx hb hall i_Node hown hK hP o_32.1 (wE_2 o_32.2) rfl 3 (by decide) (hall _ m_11) (fun _ h9 => h9) rfl d_Store_snapshot_33 ?_
        refine lv_if_eq hx hb d_Store_snapshot_36 rfl (fun hc => ?_) (fun hc => ?_)
        · replace h := i_pos hc h
          exact b_Store_snapshot_43 cx _ _ _ h hP hS (lv_sub hl [] rfl)
        · replace h := i_neg hc h
          refine lv_iload_n hx hb d_Store_snapshot_39 rfl (lv_at hl 3 rfl) ?_
          refine lv_if_ge hx hb d_Store_snapshot_40 rfl (fun hc => ?_) (fun hc => ?_)
          · replace h := i_pos hc h
            refine lv_aload_n hx hb d_Store_snapshot_45 rfl (lv_at hl 0 rfl) ?_
            refine gg_get (C := R_Store) (T := F_Store) (N := 4) (ci := 4) hx hb hall i_Store hown hK hP o0.1 (wE_4 o0.2) rfl 1 (by decide) (hall _ m_8) (fun _ h9 => h9) rfl d_Store_snapshot_46 ?_
            have o_46 : okA g 8 6 (R a0 1) := ty_Store_1 hT o0
            refine lv_iload_n hx hb d_Store_snapshot_49 rfl (lv_at hl 1 rfl) ?_
            obtain ⟨hi50, h⟩ := chk_el h
            refine gg_nald hx hb hK hP o_46 hi50 d_Store_snapshot_50 ?_
            have o_50 : okA g 2 0 (R (R a0 1) x1.toNatClampNeg) := ty_8 hT o_46 _
            refine gg_get (C := R_Node) (T := F_Node) (N := 10) (ci := 2) hx hb hall i_Node hown hK hP o_50.1 (wE_2 o_50.2) rfl 2 (by decide) (hall _ m_134) (fun _ h9 => h9) rfl d_Store_snapshot_51 ?_
            have o_51 : okA g 1 0 (R (R (R a0 1) x1.toNatClampNeg) 2) := ty_Node_2 hT o_50
            refine lv_astore (lv' := [(4, .ref (R (R (R a0 1) x1.toNatClampNeg) 2)), (0, .ref a0), (1, .int x1), (2, .int x2), (3, .int x3)]) hx hb d_Store_snapshot_54 hl (Nat.le_of_ble_eq_true rfl) rfl (fun ls hl => ?_)
            refine lv_iload_n hx hb d_Store_snapshot_56 rfl (lv_at hl 4 rfl) ?_
            refine lv_aload hx hb d_Store_snapshot_57 (lv_at hl 0 rfl) ?_
            obtain ⟨v59, e59, h⟩ := ob_el h
            refine gg_Vi (As := []) (rest := [.int x3]) (ci := 1) (C := R_Log) (T := F_Log) (N := 7) ⟨hx, hb, hml, hown, hall⟩ (c_Log_safeStamp l hT o_51 e59) (cwV 0 hall (gV m_318 m_319 m_320 m_38 m_316) rfl rfl rfl (by decide +kernel) ⟨Nat.le_of_ble_eq_true rfl, Nat.le_of_ble_eq_true rfl⟩) hK hP hS o_51.1 (wE_1 o_51.2) rfl rfl hl.1 rfl (Nat.le_of_ble_eq_true rfl) d_Store_snapshot_59 (fun H locs hP hS => ?_)
            refine lv_icmp_le hx hb d_Store_snapshot_62 rfl (fun hc => ?_) (fun hc => ?_)
            · replace h := i_pos hc h
              refine lv_iload_n hx hb d_Store_snapshot_68 rfl (lv_at hl 4 rfl) ?_
              refine lv_aload_n hx hb d_Store_snapshot_69 rfl (lv_at hl 1 rfl) ?_
              refine lv_aload hx hb d_Store_snapshot_70 (lv_at hl 0 rfl) ?_
              refine lv_iload_n hx hb d_Store_snapshot_72 rfl (lv_at hl 3 rfl) ?_
              obtain ⟨v73, e73, h⟩ := ob_el h
              refine gg_Vi (As := [.ref (R (R (R a0 1) x1.toNatClampNeg) 2), .int x2]) (rest := [.int x3]) (ci := 4) (C := R_Store) (T := F_Store) (N := 4) ⟨hx, hb, hml, hown, hall⟩ (c_Store_oldestKeptStamp l hT o0 o_51 e73) (cwV 2 hall (gV m_321 m_322 m_323 m_6 m_317) rfl rfl rfl (by decide +kernel) ⟨Nat.le_of_ble_eq_true rfl, Nat.le_of_ble_eq_true rfl⟩) hK hP hS o0.1 (wE_4 o0.2) rfl rfl hl.1 rfl (Nat.le_of_ble_eq_true rfl) d_Store_snapshot_73 (fun H locs hP hS => ?_)
              refine lv_icmp_ge hx hb d_Store_snapshot_76 rfl (fun hc => ?_) (fun hc => ?_)
              · replace h := i_pos hc h
                refine lv_aload_n hx hb d_Store_snapshot_82 rfl (lv_at hl 1 rfl) ?_
                refine lv_aload hx hb d_Store_snapshot_83 (lv_at hl 0 rfl) ?_
                refine lv_iload_n hx hb d_Store_snapshot_85 rfl (lv_at hl 3 rfl) ?_
                refine lv_iload_n hx hb d_Store_snapshot_86 rfl (lv_at hl 4 rfl) ?_
                obtain ⟨v87, e87, h⟩ := ob_el h
                refine gg_Vi (As := [.ref (R (R (R a0 1) x1.toNatClampNeg) 2), .int x2, .int x3]) (rest := []) (ci := 4) (C := R_Store) (T := F_Store) (N := 4) ⟨hx, hb, hml, hown, hall⟩ (c_Store_valueAt l hT o0 o_51 e87) (cwV 3 hall (gV m_241 m_242 m_243 m_6 m_226) rfl rfl rfl (by decide +kernel) ⟨Nat.le_of_ble_eq_true rfl, Nat.le_of_ble_eq_true rfl⟩) hK hP hS o0.1 (wE_4 o0.2) rfl rfl hl.1 rfl (Nat.le_of_ble_eq_true rfl) d_Store_snapshot_87 (fun H locs hP hS => ?_)
                obtain rfl := Option.some.inj h
                exact gg_iret hx hb hr hlk hK hP hS d_Store_snapshot_90
              · replace h := i_neg hc h
                refine lv_bipush (v := (-8)) hx hb d_Store_snapshot_79 (by decide) ?_
                obtain rfl := Option.some.inj h
                exact gg_iret hx hb hr hlk hK hP hS d_Store_snapshot_81
            · replace h := i_neg hc h
              refine lv_bipush (v := (-4)) hx hb d_Store_snapshot_65 (by decide) ?_
              obtain rfl := Option.some.inj h
              exact gg_iret hx hb hr hlk hK hP hS d_Store_snapshot_67
          · replace h := i_neg hc h
            exact b_Store_snapshot_43 cx _ _ _ h hP hS (lv_sub hl [] rfl)
      · replace h := i_neg hc h
        exact b_Store_snapshot_25 cx _ _ _ h hP hS (lv_sub hl [] rfl)
abbrev b_Store_safe : ByteArray := prog_1_method_18_code
def y_Store_safe : MethodName := ⟨"StampedStore", "safe", "(I)I"⟩
def w_Store_safe : List Cond := .code y_Store_safe b_Store_safe 2 (some .int) :: w_all
theorem d_Store_safe_0 : decode b_Store_safe 0 = .ok (.iload_n 1, 1) := by decide +kernel
theorem d_Store_safe_1 : decode b_Store_safe 1 = .ok (.invokestatic 38, 3) := by decide +kernel
theorem d_Store_safe_4 : decode b_Store_safe 4 = .ok (.ifCond .eq 18, 3) := by decide +kernel
theorem d_Store_safe_7 : decode b_Store_safe 7 = .ok (.aload_n 0, 1) := by decide +kernel
theorem d_Store_safe_8 : decode b_Store_safe 8 = .ok (.getfield 11, 3) := by decide +kernel
theorem d_Store_safe_11 : decode b_Store_safe 11 = .ok (.iload_n 1, 1) := by decide +kernel
theorem d_Store_safe_12 : decode b_Store_safe 12 = .ok (.aaload, 1) := by decide +kernel
theorem d_Store_safe_13 : decode b_Store_safe 13 = .ok (.getfield 97, 3) := by decide +kernel
theorem d_Store_safe_16 : decode b_Store_safe 16 = .ok (.invokevirtual 194, 3) := by decide +kernel
theorem d_Store_safe_19 : decode b_Store_safe 19 = .ok (.goto 4, 3) := by decide +kernel
theorem d_Store_safe_22 : decode b_Store_safe 22 = .ok (.iconst (-1), 1) := by decide +kernel
theorem d_Store_safe_23 : decode b_Store_safe 23 = .ok (.ireturn, 1) := by decide +kernel
def F_Store_safe (R : Nat → Nat → Nat) (a0 : Nat) (x1 : Int32) (I : St) : Option Int32 := (ob (F_Store_isNode R x1 I) (fun v1 => (if v1 = 0 then some (-1 : Int32) else (chk x1 6 ((ob (F_Log_safeStamp R (R (R (R a0 1) x1.toNatClampNeg) 2) I) (fun v16 => some v16)))))))
set_option maxHeartbeats 4000000 in
set_option maxRecDepth 100000 in
theorem c_Store_safe (l : Launch) {g : Sg} {R : Nat → Nat → Nat} (hT : Ty g R) {a0 : Nat} (o0 : okA g 4 0 a0) {x1 : Int32} {I : St} {v : Int32} (h : F_Store_safe R a0 x1 I = some v) : Cti l g R y_Store_safe w_Store_safe 4 89 [.ref a0, .int x1] I v I := by
  unfold Cti
  refine Met.ofW (cc := b_Store_safe) (maxL := 2) (ret := (some .int)) (by decide) rfl ?_
  intro p e s m args below meth c s₁ B hml hv
  obtain ⟨rfl, hP, hK⟩ := hv
  have hts := atoms_spec (ws := w_Store_safe) B.pre
  have hall : ∀ w ∈ w_all, w.before _ s = true := fun w hw => hts w (List.mem_cons_of_mem _ hw)
  have hown : s.vm.findClass R_Store = some m.cls := findClass_of_methodNamed B.named
  have hx := B.exec
  have hb := B.bytes
  have hr := B.returns
  have hlk := B.notSynchronized
  have cx : Cx p s m _ meth c g R R_Store b_Store_safe 2 (some .int) := ⟨hx, hb, hml, hr, hlk, hown, hall, hT, hK⟩
  have hl := lv_entry ([.ref a0, .int x1]) (n := 2) (Nat.le_of_ble_eq_true rfl)
  rw [lg_entry_eq]
  generalize (lg_sl ([.ref a0, .int x1]) ++ List.replicate (2 - (lg_sl ([.ref a0, .int x1])).length) Slot.unset).toArray = ls at hl ⊢
  have hl : lv_has ls 2 [(0, .ref a0), (1, .int x1)] := hl
  have hS : va_S (· ∈ g.L) s.heap s.heap [] := va_S.rf
  unfold F_Store_safe at h
  refine lv_iload_n hx hb d_Store_safe_0 rfl (lv_at hl 1 rfl) ?_
  obtain ⟨v1, e1, h⟩ := ob_el h
  refine gg_Si (As := [.int x1]) (rest := []) ⟨hx, hb, hml, hown, hall⟩ (c_Store_isNode l hT e1) (cwS 1 hall (gS m_4 m_5 m_6 m_3) rfl rfl rfl (by decide +kernel) ⟨Nat.le_of_ble_eq_true rfl, Nat.le_of_ble_eq_true rfl⟩) hK hP hS rfl hl.1 rfl (Nat.le_of_ble_eq_true rfl) d_Store_safe_1 (fun H locs hP hS => ?_)
  refine lv_if_eq hx hb d_Store_safe_4 rfl (fun hc => ?_) (fun hc => ?_)
  · replace h := i_pos hc h
    refine lv_iconst (v := (-1)) hx hb d_Store_safe_22 (by decide) ?_
    obtain rfl := Option.some.inj h
    exact gg_iret hx hb hr hlk hK hP hS d_Store_safe_23
  · replace h := i_neg hc h
    refine lv_aload_n hx hb d_Store_safe_7 rfl (lv_at hl 0 rfl) ?_
    refine gg_get (C := R_Store) (T := F_Store) (N := 4) (ci := 4) hx hb hall i_Store hown hK hP o0.1 (wE_4 o0.2) rfl 1 (by decide) (hall _ m_8) (fun _ h9 => h9) rfl d_Store_safe_8 ?_
    have o_8 : okA g 8 6 (R a0 1) := ty_Store_1 hT o0
    refine lv_iload_n hx hb d_Store_safe_11 rfl (lv_at hl 1 rfl) ?_
    obtain ⟨hi12, h⟩ := chk_el h
    refine gg_nald hx hb hK hP o_8 hi12 d_Store_safe_12 ?_
    have o_12 : okA g 2 0 (R (R a0 1) x1.toNatClampNeg) := ty_8 hT o_8 _
    refine gg_get (C := R_Node) (T := F_Node) (N := 10) (ci := 2) hx hb hall i_Node hown hK hP o_12.1 (wE_2 o_12.2) rfl 2 (by decide) (hall _ m_134) (fun _ h9 => h9) rfl d_Store_safe_13 ?_
    have o_13 : okA g 1 0 (R (R (R a0 1) x1.toNatClampNeg) 2) := ty_Node_2 hT o_12
    obtain ⟨v16, e16, h⟩ := ob_el h
    refine gg_Vi (As := []) (rest := []) (ci := 1) (C := R_Log) (T := F_Log) (N := 7) ⟨hx, hb, hml, hown, hall⟩ (c_Log_safeStamp l hT o_13 e16) (cwV 0 hall (gV m_318 m_319 m_320 m_38 m_316) rfl rfl rfl (by decide +kernel) ⟨Nat.le_of_ble_eq_true rfl, Nat.le_of_ble_eq_true rfl⟩) hK hP hS o_13.1 (wE_1 o_13.2) rfl rfl hl.1 rfl (Nat.le_of_ble_eq_true rfl) d_Store_safe_16 (fun H locs hP hS => ?_)
    refine lv_goto hx hb d_Store_safe_19 rfl ?_
    obtain rfl := Option.some.inj h
    exact gg_iret hx hb hr hlk hK hP hS d_Store_safe_23
abbrev b_Store_length : ByteArray := prog_1_method_19_code
def y_Store_length : MethodName := ⟨"StampedStore", "length", "(I)I"⟩
def w_Store_length : List Cond := .code y_Store_length b_Store_length 2 (some .int) :: w_all
theorem d_Store_length_0 : decode b_Store_length 0 = .ok (.iload_n 1, 1) := by decide +kernel
theorem d_Store_length_1 : decode b_Store_length 1 = .ok (.invokestatic 38, 3) := by decide +kernel
theorem d_Store_length_4 : decode b_Store_length 4 = .ok (.ifCond .eq 18, 3) := by decide +kernel
theorem d_Store_length_7 : decode b_Store_length 7 = .ok (.aload_n 0, 1) := by decide +kernel
theorem d_Store_length_8 : decode b_Store_length 8 = .ok (.getfield 11, 3) := by decide +kernel
theorem d_Store_length_11 : decode b_Store_length 11 = .ok (.iload_n 1, 1) := by decide +kernel
theorem d_Store_length_12 : decode b_Store_length 12 = .ok (.aaload, 1) := by decide +kernel
theorem d_Store_length_13 : decode b_Store_length 13 = .ok (.getfield 97, 3) := by decide +kernel
theorem d_Store_length_16 : decode b_Store_length 16 = .ok (.getfield 116, 3) := by decide +kernel
theorem d_Store_length_19 : decode b_Store_length 19 = .ok (.goto 4, 3) := by decide +kernel
theorem d_Store_length_22 : decode b_Store_length 22 = .ok (.iconst (-1), 1) := by decide +kernel
theorem d_Store_length_23 : decode b_Store_length 23 = .ok (.ireturn, 1) := by decide +kernel
def F_Store_length (R : Nat → Nat → Nat) (a0 : Nat) (x1 : Int32) (I : St) : Option Int32 := (ob (F_Store_isNode R x1 I) (fun v1 => (if v1 = 0 then some (-1 : Int32) else (chk x1 6 (some (I (R (R (R a0 1) x1.toNatClampNeg) 2) 5))))))
set_option maxHeartbeats 4000000 in
set_option maxRecDepth 100000 in
theorem c_Store_length (l : Launch) {g : Sg} {R : Nat → Nat → Nat} (hT : Ty g R) {a0 : Nat} (o0 : okA g 4 0 a0) {x1 : Int32} {I : St} {v : Int32} (h : F_Store_length R a0 x1 I = some v) : Cti l g R y_Store_length w_Store_length 1 20 [.ref a0, .int x1] I v I := by
  unfold Cti
  refine Met.ofW (cc := b_Store_length) (maxL := 2) (ret := (some .int)) (by decide) rfl ?_
  intro p e s m args below meth c s₁ B hml hv
  obtain ⟨rfl, hP, hK⟩ := hv
  have hts := atoms_spec (ws := w_Store_length) B.pre
  have hall : ∀ w ∈ w_all, w.before _ s = true := fun w hw => hts w (List.mem_cons_of_mem _ hw)
  have hown : s.vm.findClass R_Store = some m.cls := findClass_of_methodNamed B.named
  have hx := B.exec
  have hb := B.bytes
  have hr := B.returns
  have hlk := B.notSynchronized
  have cx : Cx p s m _ meth c g R R_Store b_Store_length 2 (some .int) := ⟨hx, hb, hml, hr, hlk, hown, hall, hT, hK⟩
  have hl := lv_entry ([.ref a0, .int x1]) (n := 2) (Nat.le_of_ble_eq_true rfl)
  rw [lg_entry_eq]
  generalize (lg_sl ([.ref a0, .int x1]) ++ List.replicate (2 - (lg_sl ([.ref a0, .int x1])).length) Slot.unset).toArray = ls at hl ⊢
  have hl : lv_has ls 2 [(0, .ref a0), (1, .int x1)] := hl
  have hS : va_S (· ∈ g.L) s.heap s.heap [] := va_S.rf
  unfold F_Store_length at h
  refine lv_iload_n hx hb d_Store_length_0 rfl (lv_at hl 1 rfl) ?_
  obtain ⟨v1, e1, h⟩ := ob_el h
  refine gg_Si (As := [.int x1]) (rest := []) ⟨hx, hb, hml, hown, hall⟩ (c_Store_isNode l hT e1) (cwS 1 hall (gS m_4 m_5 m_6 m_3) rfl rfl rfl (by decide +kernel) ⟨Nat.le_of_ble_eq_true rfl, Nat.le_of_ble_eq_true rfl⟩) hK hP hS rfl hl.1 rfl (Nat.le_of_ble_eq_true rfl) d_Store_length_1 (fun H locs hP hS => ?_)
  refine lv_if_eq hx hb d_Store_length_4 rfl (fun hc => ?_) (fun hc => ?_)
  · replace h := i_pos hc h
    refine lv_iconst (v := (-1)) hx hb d_Store_length_22 (by decide) ?_
    obtain rfl := Option.some.inj h
    exact gg_iret hx hb hr hlk hK hP hS d_Store_length_23
  · replace h := i_neg hc h
    refine lv_aload_n hx hb d_Store_length_7 rfl (lv_at hl 0 rfl) ?_
    refine gg_get (C := R_Store) (T := F_Store) (N := 4) (ci := 4) hx hb hall i_Store hown hK hP o0.1 (wE_4 o0.2) rfl 1 (by decide) (hall _ m_8) (fun _ h9 => h9) rfl d_Store_length_8 ?_
    have o_8 : okA g 8 6 (R a0 1) := ty_Store_1 hT o0
    refine lv_iload_n hx hb d_Store_length_11 rfl (lv_at hl 1 rfl) ?_
    obtain ⟨hi12, h⟩ := chk_el h
    refine gg_nald hx hb hK hP o_8 hi12 d_Store_length_12 ?_
    have o_12 : okA g 2 0 (R (R a0 1) x1.toNatClampNeg) := ty_8 hT o_8 _
    refine gg_get (C := R_Node) (T := F_Node) (N := 10) (ci := 2) hx hb hall i_Node hown hK hP o_12.1 (wE_2 o_12.2) rfl 2 (by decide) (hall _ m_134) (fun _ h9 => h9) rfl d_Store_length_13 ?_
    have o_13 : okA g 1 0 (R (R (R a0 1) x1.toNatClampNeg) 2) := ty_Node_2 hT o_12
    refine gg_get (C := R_Log) (T := F_Log) (N := 7) (ci := 1) hx hb hall i_Log hown hK hP o_13.1 (wE_1 o_13.2) rfl 5 (by decide) (hall _ m_140) (fun _ h9 => h9) rfl d_Store_length_16 ?_
    refine lv_goto hx hb d_Store_length_19 rfl ?_
    obtain rfl := Option.some.inj h
    exact gg_iret hx hb hr hlk hK hP hS d_Store_length_23
end
