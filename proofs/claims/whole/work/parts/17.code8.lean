section
abbrev b_Store_write : ByteArray := prog_1_method_11_code
def y_Store_write : MethodName := ⟨"StampedStore", "write", "(III)Z"⟩
def w_Store_write : List Cond := .code y_Store_write b_Store_write 4 (some .boolean) :: w_all
theorem d_Store_write_0 : decode b_Store_write 0 = .ok (.aload_n 0, 1) := by decide +kernel
theorem d_Store_write_1 : decode b_Store_write 1 = .ok (.iload_n 1, 1) := by decide +kernel
theorem d_Store_write_2 : decode b_Store_write 2 = .ok (.invokevirtual 122, 3) := by decide +kernel
theorem d_Store_write_5 : decode b_Store_write 5 = .ok (.ifCond .eq 22, 3) := by decide +kernel
theorem d_Store_write_8 : decode b_Store_write 8 = .ok (.iload_n 2, 1) := by decide +kernel
theorem d_Store_write_9 : decode b_Store_write 9 = .ok (.invokestatic 125, 3) := by decide +kernel
theorem d_Store_write_12 : decode b_Store_write 12 = .ok (.ifCond .eq 15, 3) := by decide +kernel
theorem d_Store_write_15 : decode b_Store_write 15 = .ok (.aload_n 0, 1) := by decide +kernel
theorem d_Store_write_16 : decode b_Store_write 16 = .ok (.getfield 17, 3) := by decide +kernel
theorem d_Store_write_19 : decode b_Store_write 19 = .ok (.iload_n 1, 1) := by decide +kernel
theorem d_Store_write_20 : decode b_Store_write 20 = .ok (.aaload, 1) := by decide +kernel
theorem d_Store_write_21 : decode b_Store_write 21 = .ok (.getfield 128, 3) := by decide +kernel
theorem d_Store_write_24 : decode b_Store_write 24 = .ok (.ifCond .eq 5, 3) := by decide +kernel
theorem d_Store_write_27 : decode b_Store_write 27 = .ok (.iconst 0, 1) := by decide +kernel
theorem d_Store_write_28 : decode b_Store_write 28 = .ok (.ireturn, 1) := by decide +kernel
theorem d_Store_write_29 : decode b_Store_write 29 = .ok (.iload_n 3, 1) := by decide +kernel
theorem d_Store_write_30 : decode b_Store_write 30 = .ok (.ifCond .lt 10, 3) := by decide +kernel
theorem d_Store_write_33 : decode b_Store_write 33 = .ok (.iload_n 3, 1) := by decide +kernel
theorem d_Store_write_34 : decode b_Store_write 34 = .ok (.sipush 999, 3) := by decide +kernel
theorem d_Store_write_37 : decode b_Store_write 37 = .ok (.if_icmp .le 5, 3) := by decide +kernel
theorem d_Store_write_40 : decode b_Store_write 40 = .ok (.iconst 0, 1) := by decide +kernel
theorem d_Store_write_41 : decode b_Store_write 41 = .ok (.ireturn, 1) := by decide +kernel
theorem d_Store_write_42 : decode b_Store_write 42 = .ok (.aload_n 0, 1) := by decide +kernel
theorem d_Store_write_43 : decode b_Store_write 43 = .ok (.getfield 17, 3) := by decide +kernel
theorem d_Store_write_46 : decode b_Store_write 46 = .ok (.iload_n 1, 1) := by decide +kernel
theorem d_Store_write_47 : decode b_Store_write 47 = .ok (.aaload, 1) := by decide +kernel
theorem d_Store_write_48 : decode b_Store_write 48 = .ok (.getfield 134, 3) := by decide +kernel
theorem d_Store_write_51 : decode b_Store_write 51 = .ok (.iload_n 2, 1) := by decide +kernel
theorem d_Store_write_52 : decode b_Store_write 52 = .ok (.iload_n 3, 1) := by decide +kernel
theorem d_Store_write_53 : decode b_Store_write 53 = .ok (.iastore, 1) := by decide +kernel
theorem d_Store_write_54 : decode b_Store_write 54 = .ok (.iconst 1, 1) := by decide +kernel
theorem d_Store_write_55 : decode b_Store_write 55 = .ok (.ireturn, 1) := by decide +kernel
def B_Store_write_27 (R : Nat → Nat → Nat) (I : St) : Option (Int32 × St) := some ((0 : Int32), I)
set_option maxHeartbeats 4000000 in
set_option maxRecDepth 100000 in
theorem b_Store_write_27 {p : Program} {l : Launch} {e : Env} {s : State} {m : MethodId} {args : Array Value} {below : List Frame} {meth : Method} {c : Code} {g : Sg} {R : Nat → Nat → Nat} {J : St} {v : Int32} (cx : Cx p s m args meth c g R R_Store b_Store_write 4 (some .boolean)) : ∀ (I : St) (H : Heap) (locs : List Loc) (ls : Array Slot), B_Store_write_27 R I = some (v, J) → wW g R I H → va_S (· ∈ g.L) s.heap H locs → lv_has ls 4 [] → W p l e { frames := 1, cells := 0, slots := 0, locals := 21 } s m args below meth c H locs 0 0 (MQ below (Qi g R v J) args s 0 0 (· ∈ g.L)) (F0 m 27 ls []) := by
  have ⟨hx, hb, hml, hr, hlk, hown, hall, hT, hK⟩ := cx
  intro I H locs ls h hP hS hl
  unfold B_Store_write_27 at h
  refine lv_iconst (v := 0) hx hb d_Store_write_27 (by decide) ?_
  obtain ⟨rfl, rfl⟩ := rt_el h
  exact gg_zret hx hb hr hlk rfl hK hP hS d_Store_write_28
def B_Store_write_40 (R : Nat → Nat → Nat) (I : St) : Option (Int32 × St) := some ((0 : Int32), I)
set_option maxHeartbeats 4000000 in
set_option maxRecDepth 100000 in
theorem b_Store_write_40 {p : Program} {l : Launch} {e : Env} {s : State} {m : MethodId} {args : Array Value} {below : List Frame} {meth : Method} {c : Code} {g : Sg} {R : Nat → Nat → Nat} {J : St} {v : Int32} (cx : Cx p s m args meth c g R R_Store b_Store_write 4 (some .boolean)) : ∀ (I : St) (H : Heap) (locs : List Loc) (ls : Array Slot), B_Store_write_40 R I = some (v, J) → wW g R I H → va_S (· ∈ g.L) s.heap H locs → lv_has ls 4 [] → W p l e { frames := 1, cells := 0, slots := 0, locals := 21 } s m args below meth c H locs 0 0 (MQ below (Qi g R v J) args s 0 0 (· ∈ g.L)) (F0 m 40 ls []) := by
  have ⟨hx, hb, hml, hr, hlk, hown, hall, hT, hK⟩ := cx
  intro I H locs ls h hP hS hl
  unfold B_Store_write_40 at h
  refine lv_iconst (v := 0) hx hb d_Store_write_40 (by decide) ?_
  obtain ⟨rfl, rfl⟩ := rt_el h
  exact gg_zret hx hb hr hlk rfl hK hP hS d_Store_write_41
def F_Store_write (R : Nat → Nat → Nat) (a0 : Nat) (x1 : Int32) (x2 : Int32) (x3 : Int32) (I : St) : Option (Int32 × St) := (ob (F_Store_isTransaction R a0 x1 I) (fun v2 => (if v2 = 0 then B_Store_write_27 R I else (ob (F_Store_isKey R x2 I) (fun v9 => (if v9 = 0 then B_Store_write_27 R I else (chk x1 16 ((if (I (R (R a0 2) x1.toNatClampNeg) 3) = 0 then (if x3 < 0 then B_Store_write_40 R I else (if x3 ≤ (999 : Int32) then (chk x1 16 ((chk x2 8 (ap (up2 I (R (R (R a0 2) x1.toNatClampNeg) 1) x2.toNatClampNeg x3) (fun I53 => some ((1 : Int32), I53)))))) else B_Store_write_40 R I)) else B_Store_write_27 R I)))))))))
set_option maxHeartbeats 4000000 in
set_option maxRecDepth 100000 in
theorem c_Store_write (l : Launch) {g : Sg} {R : Nat → Nat → Nat} (hT : Ty g R) {a0 : Nat} (o0 : okA g 4 0 a0) {x1 : Int32} {x2 : Int32} {x3 : Int32} {I : St} {J : St} {v : Int32} (h : F_Store_write R a0 x1 x2 x3 I = some (v, J)) : Cti l g R y_Store_write w_Store_write 1 21 [.ref a0, .int x1, .int x2, .int x3] I v J := by
  unfold Cti
  refine Met.ofW (cc := b_Store_write) (maxL := 4) (ret := (some .boolean)) (by decide) rfl ?_
  intro p e s m args below meth c s₁ B hml hv
  obtain ⟨rfl, hP, hK⟩ := hv
  have hts := atoms_spec (ws := w_Store_write) B.pre
  have hall : ∀ w ∈ w_all, w.before _ s = true := fun w hw => hts w (List.mem_cons_of_mem _ hw)
  have hown : s.vm.findClass R_Store = some m.cls := findClass_of_methodNamed B.named
  have hx := B.exec
  have hb := B.bytes
  have hr := B.returns
  have hlk := B.notSynchronized
  have cx : Cx p s m _ meth c g R R_Store b_Store_write 4 (some .boolean) := ⟨hx, hb, hml, hr, hlk, hown, hall, hT, hK⟩
  have hl := lv_entry ([.ref a0, .int x1, .int x2, .int x3]) (n := 4) (Nat.le_of_ble_eq_true rfl)
  rw [lg_entry_eq]
  generalize (lg_sl ([.ref a0, .int x1, .int x2, .int x3]) ++ List.replicate (4 - (lg_sl ([.ref a0, .int x1, .int x2, .int x3])).length) Slot.unset).toArray = ls at hl ⊢
  have hl : lv_has ls 4 [(0, .ref a0), (1, .int x1), (2, .int x2), (3, .int x3)] := hl
  have hS : va_S (· ∈ g.L) s.heap s.heap [] := va_S.rf
  unfold F_Store_write at h
  refine lv_aload_n hx hb d_Store_write_0 rfl (lv_at hl 0 rfl) ?_
  refine lv_iload_n hx hb d_Store_write_1 rfl (lv_at hl 1 rfl) ?_
  obtain ⟨v2, e2, h⟩ := ob_el h
  refine gg_Vi (As := [.int x1]) (rest := []) (ci := 4) (C := R_Store) (T := F_Store) (N := 4) ⟨hx, hb, hml, hown, hall⟩ (c_Store_isTransaction l hT o0 e2) (cwV 1 hall (gV m_215 m_216 m_217 m_6 m_160) rfl rfl rfl (by decide +kernel) ⟨Nat.le_of_ble_eq_true rfl, Nat.le_of_ble_eq_true rfl⟩) hK hP hS o0.1 (wE_4 o0.2) rfl rfl hl.1 rfl (Nat.le_of_ble_eq_true rfl) d_Store_write_2 (fun H locs hP hS => ?_)
  refine lv_if_eq hx hb d_Store_write_5 rfl (fun hc => ?_) (fun hc => ?_)
  · replace h := i_pos hc h
    exact b_Store_write_27 cx _ _ _ _ h hP hS (lv_sub hl [] rfl)
  · replace h := i_neg hc h
    refine lv_iload_n hx hb d_Store_write_8 rfl (lv_at hl 2 rfl) ?_
    obtain ⟨v9, e9, h⟩ := ob_el h
    refine gg_Si (As := [.int x2]) (rest := []) ⟨hx, hb, hml, hown, hall⟩ (c_Store_isKey l hT e9) (cwS 1 hall (gS m_227 m_228 m_6 m_161) rfl rfl rfl (by decide +kernel) ⟨Nat.le_of_ble_eq_true rfl, Nat.le_of_ble_eq_true rfl⟩) hK hP hS rfl hl.1 rfl (Nat.le_of_ble_eq_true rfl) d_Store_write_9 (fun H locs hP hS => ?_)
    refine lv_if_eq hx hb d_Store_write_12 rfl (fun hc => ?_) (fun hc => ?_)
    · replace h := i_pos hc h
      exact b_Store_write_27 cx _ _ _ _ h hP hS (lv_sub hl [] rfl)
    · replace h := i_neg hc h
      refine lv_aload_n hx hb d_Store_write_15 rfl (lv_at hl 0 rfl) ?_
      refine gg_get (C := R_Store) (T := F_Store) (N := 4) (ci := 4) hx hb hall i_Store hown hK hP o0.1 (wE_4 o0.2) rfl 2 (by decide) (hall _ m_202) (fun _ h9 => h9) rfl d_Store_write_16 ?_
      have o_16 : okA g 9 16 (R a0 2) := ty_Store_2 hT o0
      refine lv_iload_n hx hb d_Store_write_19 rfl (lv_at hl 1 rfl) ?_
      obtain ⟨hi20, h⟩ := chk_el h
      refine gg_tald hx hb hK hP o_16 hi20 d_Store_write_20 ?_
      have o_20 : okA g 3 0 (R (R a0 2) x1.toNatClampNeg) := ty_9 hT o_16 _
      refine gg_get (C := R_Txn) (T := F_Txn) (N := 5) (ci := 3) hx hb hall i_Txn hown hK hP o_20.1 (wE_3 o_20.2) rfl 3 (by decide) (hall _ m_229) (fun _ h9 => h9) rfl d_Store_write_21 ?_
      refine lv_if_eq hx hb d_Store_write_24 rfl (fun hc => ?_) (fun hc => ?_)
      · replace h := i_pos hc h
        refine lv_iload_n hx hb d_Store_write_29 rfl (lv_at hl 3 rfl) ?_
        refine lv_if_lt hx hb d_Store_write_30 rfl (fun hc => ?_) (fun hc => ?_)
        · replace h := i_pos hc h
          exact b_Store_write_40 cx _ _ _ _ h hP hS (lv_sub hl [] rfl)
        · replace h := i_neg hc h
          refine lv_iload_n hx hb d_Store_write_33 rfl (lv_at hl 3 rfl) ?_
          refine lv_sipush (v := 999) hx hb d_Store_write_34 (by decide) ?_
          refine lv_icmp_le hx hb d_Store_write_37 rfl (fun hc => ?_) (fun hc => ?_)
          · replace h := i_pos hc h
            refine lv_aload_n hx hb d_Store_write_42 rfl (lv_at hl 0 rfl) ?_
            refine gg_get (C := R_Store) (T := F_Store) (N := 4) (ci := 4) hx hb hall i_Store hown hK hP o0.1 (wE_4 o0.2) rfl 2 (by decide) (hall _ m_202) (fun _ h9 => h9) rfl d_Store_write_43 ?_
            have o_43 : okA g 9 16 (R a0 2) := ty_Store_2 hT o0
            refine lv_iload_n hx hb d_Store_write_46 rfl (lv_at hl 1 rfl) ?_
            obtain ⟨hi47, h⟩ := chk_el h
            refine gg_tald hx hb hK hP o_43 hi47 d_Store_write_47 ?_
            have o_47 : okA g 3 0 (R (R a0 2) x1.toNatClampNeg) := ty_9 hT o_43 _
            refine gg_get (C := R_Txn) (T := F_Txn) (N := 5) (ci := 3) hx hb hall i_Txn hown hK hP o_47.1 (wE_3 o_47.2) rfl 1 (by decide) (hall _ m_225) (fun _ h9 => h9) rfl d_Store_write_48 ?_
            have o_48 : okA g 6 8 (R (R (R a0 2) x1.toNatClampNeg) 1) := ty_Txn_1 hT o_47
            refine lv_iload_n hx hb d_Store_write_51 rfl (lv_at hl 2 rfl) ?_
            refine lv_iload_n hx hb d_Store_write_52 rfl (lv_at hl 3 rfl) ?_
            obtain ⟨hi53, h⟩ := chk_el h
            refine gg_iast hx hb hT.1 hK hP hS o_48 hi53 d_Store_write_53 (fun I53 H locs e53 hP hS => ?_)
            replace h := ap_el e53 h
            refine lv_iconst (v := 1) hx hb d_Store_write_54 (by decide) ?_
            obtain ⟨rfl, rfl⟩ := rt_el h
            exact gg_zret hx hb hr hlk rfl hK hP hS d_Store_write_55
          · replace h := i_neg hc h
            exact b_Store_write_40 cx _ _ _ _ h hP hS (lv_sub hl [] rfl)
      · replace h := i_neg hc h
        exact b_Store_write_27 cx _ _ _ _ h hP hS (lv_sub hl [] rfl)
abbrev b_Txn_writesIn : ByteArray := prog_5_method_3_code
def y_Txn_writesIn : MethodName := ⟨"StampedStore$Transaction", "writesIn", "(I)Z"⟩
def w_Txn_writesIn : List Cond := .code y_Txn_writesIn b_Txn_writesIn 4 (some .boolean) :: w_all
theorem d_Txn_writesIn_0 : decode b_Txn_writesIn 0 = .ok (.iload_n 1, 1) := by decide +kernel
theorem d_Txn_writesIn_1 : decode b_Txn_writesIn 1 = .ok (.iconst 4, 1) := by decide +kernel
theorem d_Txn_writesIn_2 : decode b_Txn_writesIn 2 = .ok (.imul, 1) := by decide +kernel
theorem d_Txn_writesIn_3 : decode b_Txn_writesIn 3 = .ok (.istore_n 2, 1) := by decide +kernel
theorem d_Txn_writesIn_4 : decode b_Txn_writesIn 4 = .ok (.iload_n 2, 1) := by decide +kernel
theorem d_Txn_writesIn_5 : decode b_Txn_writesIn 5 = .ok (.istore_n 3, 1) := by decide +kernel
theorem d_Txn_writesIn_6 : decode b_Txn_writesIn 6 = .ok (.iload_n 3, 1) := by decide +kernel
theorem d_Txn_writesIn_7 : decode b_Txn_writesIn 7 = .ok (.iload_n 2, 1) := by decide +kernel
theorem d_Txn_writesIn_8 : decode b_Txn_writesIn 8 = .ok (.iconst 4, 1) := by decide +kernel
theorem d_Txn_writesIn_9 : decode b_Txn_writesIn 9 = .ok (.iadd, 1) := by decide +kernel
theorem d_Txn_writesIn_10 : decode b_Txn_writesIn 10 = .ok (.if_icmp .ge 19, 3) := by decide +kernel
theorem d_Txn_writesIn_13 : decode b_Txn_writesIn 13 = .ok (.aload_n 0, 1) := by decide +kernel
theorem d_Txn_writesIn_14 : decode b_Txn_writesIn 14 = .ok (.iload_n 3, 1) := by decide +kernel
theorem d_Txn_writesIn_15 : decode b_Txn_writesIn 15 = .ok (.invokevirtual 32, 3) := by decide +kernel
theorem d_Txn_writesIn_18 : decode b_Txn_writesIn 18 = .ok (.ifCond .eq 5, 3) := by decide +kernel
theorem d_Txn_writesIn_21 : decode b_Txn_writesIn 21 = .ok (.iconst 1, 1) := by decide +kernel
theorem d_Txn_writesIn_22 : decode b_Txn_writesIn 22 = .ok (.ireturn, 1) := by decide +kernel
theorem d_Txn_writesIn_23 : decode b_Txn_writesIn 23 = .ok (.iinc 3 1, 3) := by decide +kernel
theorem d_Txn_writesIn_26 : decode b_Txn_writesIn 26 = .ok (.goto (-20), 3) := by decide +kernel
theorem d_Txn_writesIn_29 : decode b_Txn_writesIn 29 = .ok (.iconst 0, 1) := by decide +kernel
theorem d_Txn_writesIn_30 : decode b_Txn_writesIn 30 = .ok (.ireturn, 1) := by decide +kernel
def B_Txn_writesIn_6 (R : Nat → Nat → Nat) (I : St) : Nat → Nat → Int32 → Int32 → Option Int32
  | 0, _, _, _ => none
  | f + 1, a0, x2, x3 => (if (x2 + (4 : Int32)) ≤ x3 then some (0 : Int32) else (ob (F_Txn_writes R a0 x3 I) (fun v15 => (if v15 = 0 then B_Txn_writesIn_6 R I f a0 x2 (x3 + 1) else some (1 : Int32)))))
set_option maxHeartbeats 4000000 in
set_option maxRecDepth 100000 in
theorem b_Txn_writesIn_6 {p : Program} {l : Launch} {e : Env} {s : State} {m : MethodId} {args : Array Value} {below : List Frame} {meth : Method} {c : Code} {g : Sg} {R : Nat → Nat → Nat} {I : St} {v : Int32} (cx : Cx p s m args meth c g R R_Txn b_Txn_writesIn 4 (some .boolean)) (f : Nat) : ∀ (a0 : Nat) (x2 : Int32) (x3 : Int32) (H : Heap) (locs : List Loc) (ls : Array Slot), okA g 3 0 a0 → B_Txn_writesIn_6 R I f a0 x2 x3 = some v → wW g R I H → va_S (· ∈ g.L) s.heap H locs → lv_has ls 4 [(0, .ref a0), (2, .int x2), (3, .int x3)] → W p l e { frames := 1, cells := 0, slots := 0, locals := 21 } s m args below meth c H locs 0 0 (MQ below (Qi g R v I) args s 0 0 (· ∈ g.L)) (F0 m 6 ls []) := by
  have ⟨hx, hb, hml, hr, hlk, hown, hall, hT, hK⟩ := cx
  induction f with
  | zero => intro a0 x2 x3 H locs ls o0 h; unfold B_Txn_writesIn_6 at h; cases h
  | succ f ih =>
    intro a0 x2 x3 H locs ls o0 h hP hS hl
    unfold B_Txn_writesIn_6 at h
    refine lv_iload_n hx hb d_Txn_writesIn_6 rfl (lv_at hl 2 rfl) ?_
    refine lv_iload_n hx hb d_Txn_writesIn_7 rfl (lv_at hl 1 rfl) ?_
    refine lv_iconst (v := 4) hx hb d_Txn_writesIn_8 (by decide) ?_
    refine lv_iadd hx hb d_Txn_writesIn_9 ?_
    refine lv_icmp_ge hx hb d_Txn_writesIn_10 rfl (fun hc => ?_) (fun hc => ?_)
    · replace h := i_pos hc h
      refine lv_iconst (v := 0) hx hb d_Txn_writesIn_29 (by decide) ?_
      obtain rfl := Option.some.inj h
      exact gg_zret hx hb hr hlk rfl hK hP hS d_Txn_writesIn_30
    · replace h := i_neg hc h
      refine lv_aload_n hx hb d_Txn_writesIn_13 rfl (lv_at hl 0 rfl) ?_
      refine lv_iload_n hx hb d_Txn_writesIn_14 rfl (lv_at hl 2 rfl) ?_
      obtain ⟨v15, e15, h⟩ := ob_el h
      refine gg_Vi (As := [.int x3]) (rest := []) (ci := 3) (C := R_Txn) (T := F_Txn) (N := 5) ⟨hx, hb, hml, hown, hall⟩ (c_Txn_writes l hT o0 e15) (cwV 1 hall (gV m_246 m_204 m_205 m_180 m_163) rfl rfl rfl (by decide +kernel) ⟨Nat.le_of_ble_eq_true rfl, Nat.le_of_ble_eq_true rfl⟩) hK hP hS o0.1 (wE_3 o0.2) rfl rfl hl.1 rfl (Nat.le_of_ble_eq_true rfl) d_Txn_writesIn_15 (fun H locs hP hS => ?_)
      refine lv_if_eq hx hb d_Txn_writesIn_18 rfl (fun hc => ?_) (fun hc => ?_)
      · replace h := i_pos hc h
        refine lv_iinc (k := 2) (v := (x3 + 1)) (lv' := [(3, .int (x3 + 1)), (0, .ref a0), (2, .int x2)]) hx hb d_Txn_writesIn_23 hl rfl (by rw [show Int32.ofInt 1 = (1 : Int32) from by decide]) (Nat.le_of_ble_eq_true rfl) rfl (fun ls hl => ?_)
        refine lv_goto hx hb d_Txn_writesIn_26 rfl ?_
        exact ih _ _ _ _ _ _ o0 h hP hS (lv_sub hl [1, 2, 0] rfl)
      · replace h := i_neg hc h
        refine lv_iconst (v := 1) hx hb d_Txn_writesIn_21 (by decide) ?_
        obtain rfl := Option.some.inj h
        exact gg_zret hx hb hr hlk rfl hK hP hS d_Txn_writesIn_22
def F_Txn_writesIn (R : Nat → Nat → Nat) (a0 : Nat) (x1 : Int32) (I : St) : Option Int32 := B_Txn_writesIn_6 R I 100 a0 (x1 * (4 : Int32)) (x1 * (4 : Int32))
set_option maxHeartbeats 4000000 in
set_option maxRecDepth 100000 in
theorem c_Txn_writesIn (l : Launch) {g : Sg} {R : Nat → Nat → Nat} (hT : Ty g R) {a0 : Nat} (o0 : okA g 3 0 a0) {x1 : Int32} {I : St} {v : Int32} (h : F_Txn_writesIn R a0 x1 I = some v) : Cti l g R y_Txn_writesIn w_Txn_writesIn 1 21 [.ref a0, .int x1] I v I := by
  unfold Cti
  refine Met.ofW (cc := b_Txn_writesIn) (maxL := 4) (ret := (some .boolean)) (by decide) rfl ?_
  intro p e s m args below meth c s₁ B hml hv
  obtain ⟨rfl, hP, hK⟩ := hv
  have hts := atoms_spec (ws := w_Txn_writesIn) B.pre
  have hall : ∀ w ∈ w_all, w.before _ s = true := fun w hw => hts w (List.mem_cons_of_mem _ hw)
  have hown : s.vm.findClass R_Txn = some m.cls := findClass_of_methodNamed B.named
  have hx := B.exec
  have hb := B.bytes
  have hr := B.returns
  have hlk := B.notSynchronized
  have cx : Cx p s m _ meth c g R R_Txn b_Txn_writesIn 4 (some .boolean) := ⟨hx, hb, hml, hr, hlk, hown, hall, hT, hK⟩
  have hl := lv_entry ([.ref a0, .int x1]) (n := 4) (Nat.le_of_ble_eq_true rfl)
  rw [lg_entry_eq]
  generalize (lg_sl ([.ref a0, .int x1]) ++ List.replicate (4 - (lg_sl ([.ref a0, .int x1])).length) Slot.unset).toArray = ls at hl ⊢
  have hl : lv_has ls 4 [(0, .ref a0), (1, .int x1)] := hl
  have hS : va_S (· ∈ g.L) s.heap s.heap [] := va_S.rf
  unfold F_Txn_writesIn at h
  refine lv_iload_n hx hb d_Txn_writesIn_0 rfl (lv_at hl 1 rfl) ?_
  refine lv_iconst (v := 4) hx hb d_Txn_writesIn_1 (by decide) ?_
  refine lv_imul hx hb d_Txn_writesIn_2 ?_
  refine lv_istore_n (lv' := [(2, .int (x1 * (4 : Int32))), (0, .ref a0), (1, .int x1)]) hx hb d_Txn_writesIn_3 rfl hl (Nat.le_of_ble_eq_true rfl) rfl (fun ls hl => ?_)
  refine lv_iload_n hx hb d_Txn_writesIn_4 rfl (lv_at hl 0 rfl) ?_
  refine lv_istore_n (lv' := [(3, .int (x1 * (4 : Int32))), (2, .int (x1 * (4 : Int32))), (0, .ref a0), (1, .int x1)]) hx hb d_Txn_writesIn_5 rfl hl (Nat.le_of_ble_eq_true rfl) rfl (fun ls hl => ?_)
  exact b_Txn_writesIn_6 cx 100 _ _ _ _ _ _ o0 h hP hS (lv_sub hl [2, 1, 0] rfl)
abbrev b_Txn_usesGroup : ByteArray := prog_5_method_5_code
def y_Txn_usesGroup : MethodName := ⟨"StampedStore$Transaction", "usesGroup", "(I)Z"⟩
def w_Txn_usesGroup : List Cond := .code y_Txn_usesGroup b_Txn_usesGroup 2 (some .boolean) :: w_all
theorem d_Txn_usesGroup_0 : decode b_Txn_usesGroup 0 = .ok (.aload_n 0, 1) := by decide +kernel
theorem d_Txn_usesGroup_1 : decode b_Txn_usesGroup 1 = .ok (.iload_n 1, 1) := by decide +kernel
theorem d_Txn_usesGroup_2 : decode b_Txn_usesGroup 2 = .ok (.invokevirtual 36, 3) := by decide +kernel
theorem d_Txn_usesGroup_5 : decode b_Txn_usesGroup 5 = .ok (.ifCond .ne 11, 3) := by decide +kernel
theorem d_Txn_usesGroup_8 : decode b_Txn_usesGroup 8 = .ok (.aload_n 0, 1) := by decide +kernel
theorem d_Txn_usesGroup_9 : decode b_Txn_usesGroup 9 = .ok (.iload_n 1, 1) := by decide +kernel
theorem d_Txn_usesGroup_10 : decode b_Txn_usesGroup 10 = .ok (.invokevirtual 39, 3) := by decide +kernel
theorem d_Txn_usesGroup_13 : decode b_Txn_usesGroup 13 = .ok (.ifCond .eq 7, 3) := by decide +kernel
theorem d_Txn_usesGroup_16 : decode b_Txn_usesGroup 16 = .ok (.iconst 1, 1) := by decide +kernel
theorem d_Txn_usesGroup_17 : decode b_Txn_usesGroup 17 = .ok (.goto 4, 3) := by decide +kernel
theorem d_Txn_usesGroup_20 : decode b_Txn_usesGroup 20 = .ok (.iconst 0, 1) := by decide +kernel
theorem d_Txn_usesGroup_21 : decode b_Txn_usesGroup 21 = .ok (.ireturn, 1) := by decide +kernel
def B_Txn_usesGroup_16 (R : Nat → Nat → Nat) (I : St) : Option Int32 := some (1 : Int32)
set_option maxHeartbeats 4000000 in
set_option maxRecDepth 100000 in
theorem b_Txn_usesGroup_16 {p : Program} {l : Launch} {e : Env} {s : State} {m : MethodId} {args : Array Value} {below : List Frame} {meth : Method} {c : Code} {g : Sg} {R : Nat → Nat → Nat} {I : St} {v : Int32} (cx : Cx p s m args meth c g R R_Txn b_Txn_usesGroup 2 (some .boolean)) : ∀ (H : Heap) (locs : List Loc) (ls : Array Slot), B_Txn_usesGroup_16 R I = some v → wW g R I H → va_S (· ∈ g.L) s.heap H locs → lv_has ls 2 [] → W p l e { frames := 2, cells := 0, slots := 0, locals := 44 } s m args below meth c H locs 0 0 (MQ below (Qi g R v I) args s 0 0 (· ∈ g.L)) (F0 m 16 ls []) := by
  have ⟨hx, hb, hml, hr, hlk, hown, hall, hT, hK⟩ := cx
  intro H locs ls h hP hS hl
  unfold B_Txn_usesGroup_16 at h
  refine lv_iconst (v := 1) hx hb d_Txn_usesGroup_16 (by decide) ?_
  refine lv_goto hx hb d_Txn_usesGroup_17 rfl ?_
  obtain rfl := Option.some.inj h
  exact gg_zret hx hb hr hlk rfl hK hP hS d_Txn_usesGroup_21
def F_Txn_usesGroup (R : Nat → Nat → Nat) (a0 : Nat) (x1 : Int32) (I : St) : Option Int32 := (ob (F_Txn_hasReadIn R a0 x1 I) (fun v2 => (if v2 = 0 then (ob (F_Txn_writesIn R a0 x1 I) (fun v10 => (if v10 = 0 then some (0 : Int32) else B_Txn_usesGroup_16 R I))) else B_Txn_usesGroup_16 R I)))
set_option maxHeartbeats 4000000 in
set_option maxRecDepth 100000 in
theorem c_Txn_usesGroup (l : Launch) {g : Sg} {R : Nat → Nat → Nat} (hT : Ty g R) {a0 : Nat} (o0 : okA g 3 0 a0) {x1 : Int32} {I : St} {v : Int32} (h : F_Txn_usesGroup R a0 x1 I = some v) : Cti l g R y_Txn_usesGroup w_Txn_usesGroup 2 44 [.ref a0, .int x1] I v I := by
  unfold Cti
  refine Met.ofW (cc := b_Txn_usesGroup) (maxL := 2) (ret := (some .boolean)) (by decide) rfl ?_
  intro p e s m args below meth c s₁ B hml hv
  obtain ⟨rfl, hP, hK⟩ := hv
  have hts := atoms_spec (ws := w_Txn_usesGroup) B.pre
  have hall : ∀ w ∈ w_all, w.before _ s = true := fun w hw => hts w (List.mem_cons_of_mem _ hw)
  have hown : s.vm.findClass R_Txn = some m.cls := findClass_of_methodNamed B.named
  have hx := B.exec
  have hb := B.bytes
  have hr := B.returns
  have hlk := B.notSynchronized
  have cx : Cx p s m _ meth c g R R_Txn b_Txn_usesGroup 2 (some .boolean) := ⟨hx, hb, hml, hr, hlk, hown, hall, hT, hK⟩
  have hl := lv_entry ([.ref a0, .int x1]) (n := 2) (Nat.le_of_ble_eq_true rfl)
  rw [lg_entry_eq]
  generalize (lg_sl ([.ref a0, .int x1]) ++ List.replicate (2 - (lg_sl ([.ref a0, .int x1])).length) Slot.unset).toArray = ls at hl ⊢
  have hl : lv_has ls 2 [(0, .ref a0), (1, .int x1)] := hl
  have hS : va_S (· ∈ g.L) s.heap s.heap [] := va_S.rf
  unfold F_Txn_usesGroup at h
  refine lv_aload_n hx hb d_Txn_usesGroup_0 rfl (lv_at hl 0 rfl) ?_
  refine lv_iload_n hx hb d_Txn_usesGroup_1 rfl (lv_at hl 1 rfl) ?_
  obtain ⟨v2, e2, h⟩ := ob_el h
  refine gg_Vi (As := [.int x1]) (rest := []) (ci := 3) (C := R_Txn) (T := F_Txn) (N := 5) ⟨hx, hb, hml, hown, hall⟩ (c_Txn_hasReadIn l hT o0 e2) (cwV 1 hall (gV m_212 m_178 m_179 m_180 m_171) rfl rfl rfl (by decide +kernel) ⟨Nat.le_of_ble_eq_true rfl, Nat.le_of_ble_eq_true rfl⟩) hK hP hS o0.1 (wE_3 o0.2) rfl rfl hl.1 rfl (Nat.le_of_ble_eq_true rfl) d_Txn_usesGroup_2 (fun H locs hP hS => ?_)
  refine lv_if_ne hx hb d_Txn_usesGroup_5 rfl (fun hc => ?_) (fun hc => ?_)
  · replace h := i_neg hc h
    exact b_Txn_usesGroup_16 cx _ _ _ h hP hS (lv_sub hl [] rfl)
  · replace h := i_pos hc h
    refine lv_aload_n hx hb d_Txn_usesGroup_8 rfl (lv_at hl 0 rfl) ?_
    refine lv_iload_n hx hb d_Txn_usesGroup_9 rfl (lv_at hl 1 rfl) ?_
    obtain ⟨v10, e10, h⟩ := ob_el h
    refine gg_Vi (As := [.int x1]) (rest := []) (ci := 3) (C := R_Txn) (T := F_Txn) (N := 5) ⟨hx, hb, hml, hown, hall⟩ (c_Txn_writesIn l hT o0 e10) (cwV 1 hall (gV m_248 m_249 m_250 m_180 m_247) rfl rfl rfl (by decide +kernel) ⟨Nat.le_of_ble_eq_true rfl, Nat.le_of_ble_eq_true rfl⟩) hK hP hS o0.1 (wE_3 o0.2) rfl rfl hl.1 rfl (Nat.le_of_ble_eq_true rfl) d_Txn_usesGroup_10 (fun H locs hP hS => ?_)
    refine lv_if_eq hx hb d_Txn_usesGroup_13 rfl (fun hc => ?_) (fun hc => ?_)
    · replace h := i_pos hc h
      refine lv_iconst (v := 0) hx hb d_Txn_usesGroup_20 (by decide) ?_
      obtain rfl := Option.some.inj h
      exact gg_zret hx hb hr hlk rfl hK hP hS d_Txn_usesGroup_21
    · replace h := i_neg hc h
      exact b_Txn_usesGroup_16 cx _ _ _ h hP hS (lv_sub hl [] rfl)
abbrev b_Store_lacksReadyNode : ByteArray := prog_1_method_38_code
def y_Store_lacksReadyNode : MethodName := ⟨"StampedStore", "lacksReadyNode", "(LStampedStore$Transaction;)Z"⟩
def w_Store_lacksReadyNode : List Cond := .code y_Store_lacksReadyNode b_Store_lacksReadyNode 3 (some .boolean) :: w_all
theorem d_Store_lacksReadyNode_0 : decode b_Store_lacksReadyNode 0 = .ok (.iconst 0, 1) := by decide +kernel
theorem d_Store_lacksReadyNode_1 : decode b_Store_lacksReadyNode 1 = .ok (.istore_n 2, 1) := by decide +kernel
theorem d_Store_lacksReadyNode_2 : decode b_Store_lacksReadyNode 2 = .ok (.iload_n 2, 1) := by decide +kernel
theorem d_Store_lacksReadyNode_3 : decode b_Store_lacksReadyNode 3 = .ok (.iconst 2, 1) := by decide +kernel
theorem d_Store_lacksReadyNode_4 : decode b_Store_lacksReadyNode 4 = .ok (.if_icmp .ge 28, 3) := by decide +kernel
theorem d_Store_lacksReadyNode_7 : decode b_Store_lacksReadyNode 7 = .ok (.aload_n 1, 1) := by decide +kernel
theorem d_Store_lacksReadyNode_8 : decode b_Store_lacksReadyNode 8 = .ok (.iload_n 2, 1) := by decide +kernel
theorem d_Store_lacksReadyNode_9 : decode b_Store_lacksReadyNode 9 = .ok (.invokevirtual 240, 3) := by decide +kernel
theorem d_Store_lacksReadyNode_12 : decode b_Store_lacksReadyNode 12 = .ok (.ifCond .eq 14, 3) := by decide +kernel
theorem d_Store_lacksReadyNode_15 : decode b_Store_lacksReadyNode 15 = .ok (.aload_n 0, 1) := by decide +kernel
theorem d_Store_lacksReadyNode_16 : decode b_Store_lacksReadyNode 16 = .ok (.iload_n 2, 1) := by decide +kernel
theorem d_Store_lacksReadyNode_17 : decode b_Store_lacksReadyNode 17 = .ok (.invokevirtual 141, 3) := by decide +kernel
theorem d_Store_lacksReadyNode_20 : decode b_Store_lacksReadyNode 20 = .ok (.iconst (-1), 1) := by decide +kernel
theorem d_Store_lacksReadyNode_21 : decode b_Store_lacksReadyNode 21 = .ok (.if_icmp .ne 5, 3) := by decide +kernel
theorem d_Store_lacksReadyNode_24 : decode b_Store_lacksReadyNode 24 = .ok (.iconst 1, 1) := by decide +kernel
theorem d_Store_lacksReadyNode_25 : decode b_Store_lacksReadyNode 25 = .ok (.ireturn, 1) := by decide +kernel
theorem d_Store_lacksReadyNode_26 : decode b_Store_lacksReadyNode 26 = .ok (.iinc 2 1, 3) := by decide +kernel
theorem d_Store_lacksReadyNode_29 : decode b_Store_lacksReadyNode 29 = .ok (.goto (-27), 3) := by decide +kernel
theorem d_Store_lacksReadyNode_32 : decode b_Store_lacksReadyNode 32 = .ok (.iconst 0, 1) := by decide +kernel
theorem d_Store_lacksReadyNode_33 : decode b_Store_lacksReadyNode 33 = .ok (.ireturn, 1) := by decide +kernel
def B_Store_lacksReadyNode_26 (R : Nat → Nat → Nat) (I : St) (k2 : Nat → Nat → Int32 → Option Int32) (a0 : Nat) (a1 : Nat) (x2 : Int32) : Option Int32 := k2 a0 a1 (x2 + 1)
set_option maxHeartbeats 4000000 in
set_option maxRecDepth 100000 in
theorem b_Store_lacksReadyNode_26 {p : Program} {l : Launch} {e : Env} {s : State} {m : MethodId} {args : Array Value} {below : List Frame} {meth : Method} {c : Code} {g : Sg} {R : Nat → Nat → Nat} {I : St} {v : Int32} (cx : Cx p s m args meth c g R R_Store b_Store_lacksReadyNode 3 (some .boolean)) {k2 : Nat → Nat → Int32 → Option Int32} (hk2 : ∀ (a0 : Nat) (a1 : Nat) (x2 : Int32) (H : Heap) (locs : List Loc) (ls : Array Slot), okA g 4 0 a0 → okA g 3 0 a1 → k2 a0 a1 x2 = some v → wW g R I H → va_S (· ∈ g.L) s.heap H locs → lv_has ls 3 [(0, .ref a0), (1, .ref a1), (2, .int x2)] → W p l e { frames := 3, cells := 0, slots := 0, locals := 65 } s m args below meth c H locs 0 0 (MQ below (Qi g R v I) args s 0 0 (· ∈ g.L)) (F0 m 2 ls [])) : ∀ (a0 : Nat) (a1 : Nat) (x2 : Int32) (H : Heap) (locs : List Loc) (ls : Array Slot), okA g 4 0 a0 → okA g 3 0 a1 → B_Store_lacksReadyNode_26 R I k2 a0 a1 x2 = some v → wW g R I H → va_S (· ∈ g.L) s.heap H locs → lv_has ls 3 [(0, .ref a0), (1, .ref a1), (2, .int x2)] → W p l e { frames := 3, cells := 0, slots := 0, locals := 65 } s m args below meth c H locs 0 0 (MQ below (Qi g R v I) args s 0 0 (· ∈ g.L)) (F0 m 26 ls []) := by
  have ⟨hx, hb, hml, hr, hlk, hown, hall, hT, hK⟩ := cx
  intro a0 a1 x2 H locs ls o0 o1 h hP hS hl
  unfold B_Store_lacksReadyNode_26 at h
  refine lv_iinc (k := 2) (v := (x2 + 1)) (lv' := [(2, .int (x2 + 1)), (0, .ref a0), (1, .ref a1)]) hx hb d_Store_lacksReadyNode_26 hl rfl (by rw [show Int32.ofInt 1 = (1 : Int32) from by decide]) (Nat.le_of_ble_eq_true rfl) rfl (fun ls hl => ?_)
  refine lv_goto hx hb d_Store_lacksReadyNode_29 rfl ?_
  exact hk2 _ _ _ _ _ _ o0 o1 h hP hS (lv_sub hl [1, 2, 0] rfl)
def B_Store_lacksReadyNode_2 (R : Nat → Nat → Nat) (I : St) : Nat → Nat → Nat → Int32 → Option Int32
  | 0, _, _, _ => none
  | f + 1, a0, a1, x2 => (if (2 : Int32) ≤ x2 then some (0 : Int32) else (ob (F_Txn_usesGroup R a1 x2 I) (fun v9 => (if v9 = 0 then B_Store_lacksReadyNode_26 R I (B_Store_lacksReadyNode_2 R I f) a0 a1 x2 else (ob (F_Store_readyNode R a0 x2 I) (fun v17 => (if v17 = (-1 : Int32) then some (1 : Int32) else B_Store_lacksReadyNode_26 R I (B_Store_lacksReadyNode_2 R I f) a0 a1 x2)))))))
set_option maxHeartbeats 4000000 in
set_option maxRecDepth 100000 in
theorem b_Store_lacksReadyNode_2 {p : Program} {l : Launch} {e : Env} {s : State} {m : MethodId} {args : Array Value} {below : List Frame} {meth : Method} {c : Code} {g : Sg} {R : Nat → Nat → Nat} {I : St} {v : Int32} (cx : Cx p s m args meth c g R R_Store b_Store_lacksReadyNode 3 (some .boolean)) (f : Nat) : ∀ (a0 : Nat) (a1 : Nat) (x2 : Int32) (H : Heap) (locs : List Loc) (ls : Array Slot), okA g 4 0 a0 → okA g 3 0 a1 → B_Store_lacksReadyNode_2 R I f a0 a1 x2 = some v → wW g R I H → va_S (· ∈ g.L) s.heap H locs → lv_has ls 3 [(0, .ref a0), (1, .ref a1), (2, .int x2)] → W p l e { frames := 3, cells := 0, slots := 0, locals := 65 } s m args below meth c H locs 0 0 (MQ below (Qi g R v I) args s 0 0 (· ∈ g.L)) (F0 m 2 ls []) := by
  have ⟨hx, hb, hml, hr, hlk, hown, hall, hT, hK⟩ := cx
  induction f with
  | zero => intro a0 a1 x2 H locs ls o0 o1 h; unfold B_Store_lacksReadyNode_2 at h; cases h
  | succ f ih =>
    intro a0 a1 x2 H locs ls o0 o1 h hP hS hl
    unfold B_Store_lacksReadyNode_2 at h
    refine lv_iload_n hx hb d_Store_lacksReadyNode_2 rfl (lv_at hl 2 rfl) ?_
    refine lv_iconst (v := 2) hx hb d_Store_lacksReadyNode_3 (by decide) ?_
    refine lv_icmp_ge hx hb d_Store_lacksReadyNode_4 rfl (fun hc => ?_) (fun hc => ?_)
    · replace h := i_pos hc h
      refine lv_iconst (v := 0) hx hb d_Store_lacksReadyNode_32 (by decide) ?_
      obtain rfl := Option.some.inj h
      exact gg_zret hx hb hr hlk rfl hK hP hS d_Store_lacksReadyNode_33
    · replace h := i_neg hc h
      refine lv_aload_n hx hb d_Store_lacksReadyNode_7 rfl (lv_at hl 1 rfl) ?_
      refine lv_iload_n hx hb d_Store_lacksReadyNode_8 rfl (lv_at hl 2 rfl) ?_
      obtain ⟨v9, e9, h⟩ := ob_el h
      refine gg_Vi (As := [.int x2]) (rest := []) (ci := 3) (C := R_Txn) (T := F_Txn) (N := 5) ⟨hx, hb, hml, hown, hall⟩ (c_Txn_usesGroup l hT o1 e9) (cwV 1 hall (gV m_252 m_253 m_254 m_180 m_251) rfl rfl rfl (by decide +kernel) ⟨Nat.le_of_ble_eq_true rfl, Nat.le_of_ble_eq_true rfl⟩) hK hP hS o1.1 (wE_3 o1.2) rfl rfl hl.1 rfl (Nat.le_of_ble_eq_true rfl) d_Store_lacksReadyNode_9 (fun H locs hP hS => ?_)
      refine lv_if_eq hx hb d_Store_lacksReadyNode_12 rfl (fun hc => ?_) (fun hc => ?_)
      · replace h := i_pos hc h
        exact b_Store_lacksReadyNode_26 cx ih _ _ _ _ _ _ o0 o1 h hP hS (lv_sub hl [0, 1, 2] rfl)
      · replace h := i_neg hc h
        refine lv_aload_n hx hb d_Store_lacksReadyNode_15 rfl (lv_at hl 0 rfl) ?_
        refine lv_iload_n hx hb d_Store_lacksReadyNode_16 rfl (lv_at hl 2 rfl) ?_
        obtain ⟨v17, e17, h⟩ := ob_el h
        refine gg_Vi (As := [.int x2]) (rest := []) (ci := 4) (C := R_Store) (T := F_Store) (N := 4) ⟨hx, hb, hml, hown, hall⟩ (c_Store_readyNode l hT o0 e17) (cwV 1 hall (gV m_172 m_173 m_174 m_6 m_169) rfl rfl rfl (by decide +kernel) ⟨Nat.le_of_ble_eq_true rfl, Nat.le_of_ble_eq_true rfl⟩) hK hP hS o0.1 (wE_4 o0.2) rfl rfl hl.1 rfl (Nat.le_of_ble_eq_true rfl) d_Store_lacksReadyNode_17 (fun H locs hP hS => ?_)
        refine lv_iconst (v := (-1)) hx hb d_Store_lacksReadyNode_20 (by decide) ?_
        refine lv_icmp_ne hx hb d_Store_lacksReadyNode_21 rfl (fun hc => ?_) (fun hc => ?_)
        · replace h := i_neg hc h
          exact b_Store_lacksReadyNode_26 cx ih _ _ _ _ _ _ o0 o1 h hP hS (lv_sub hl [0, 1, 2] rfl)
        · replace h := i_pos hc h
          refine lv_iconst (v := 1) hx hb d_Store_lacksReadyNode_24 (by decide) ?_
          obtain rfl := Option.some.inj h
          exact gg_zret hx hb hr hlk rfl hK hP hS d_Store_lacksReadyNode_25
def F_Store_lacksReadyNode (R : Nat → Nat → Nat) (a0 : Nat) (a1 : Nat) (I : St) : Option Int32 := B_Store_lacksReadyNode_2 R I 100 a0 a1 (0 : Int32)
set_option maxHeartbeats 4000000 in
set_option maxRecDepth 100000 in
theorem c_Store_lacksReadyNode (l : Launch) {g : Sg} {R : Nat → Nat → Nat} (hT : Ty g R) {a0 : Nat} (o0 : okA g 4 0 a0) {a1 : Nat} (o1 : okA g 3 0 a1) {I : St} {v : Int32} (h : F_Store_lacksReadyNode R a0 a1 I = some v) : Cti l g R y_Store_lacksReadyNode w_Store_lacksReadyNode 3 65 [.ref a0, .ref a1] I v I := by
  unfold Cti
  refine Met.ofW (cc := b_Store_lacksReadyNode) (maxL := 3) (ret := (some .boolean)) (by decide) rfl ?_
  intro p e s m args below meth c s₁ B hml hv
  obtain ⟨rfl, hP, hK⟩ := hv
  have hts := atoms_spec (ws := w_Store_lacksReadyNode) B.pre
  have hall : ∀ w ∈ w_all, w.before _ s = true := fun w hw => hts w (List.mem_cons_of_mem _ hw)
  have hown : s.vm.findClass R_Store = some m.cls := findClass_of_methodNamed B.named
  have hx := B.exec
  have hb := B.bytes
  have hr := B.returns
  have hlk := B.notSynchronized
  have cx : Cx p s m _ meth c g R R_Store b_Store_lacksReadyNode 3 (some .boolean) := ⟨hx, hb, hml, hr, hlk, hown, hall, hT, hK⟩
  have hl := lv_entry ([.ref a0, .ref a1]) (n := 3) (Nat.le_of_ble_eq_true rfl)
  rw [lg_entry_eq]
  generalize (lg_sl ([.ref a0, .ref a1]) ++ List.replicate (3 - (lg_sl ([.ref a0, .ref a1])).length) Slot.unset).toArray = ls at hl ⊢
  have hl : lv_has ls 3 [(0, .ref a0), (1, .ref a1)] := hl
  have hS : va_S (· ∈ g.L) s.heap s.heap [] := va_S.rf
  unfold F_Store_lacksReadyNode at h
  refine lv_iconst (v := 0) hx hb d_Store_lacksReadyNode_0 (by decide) ?_
  refine lv_istore_n (lv' := [(2, .int (0 : Int32)), (0, .ref a0), (1, .ref a1)]) hx hb d_Store_lacksReadyNode_1 rfl hl (Nat.le_of_ble_eq_true rfl) rfl (fun ls hl => ?_)
  exact b_Store_lacksReadyNode_2 cx 100 _ _ _ _ _ _ o0 o1 h hP hS (lv_sub hl [1, 2, 0] rfl)
abbrev b_Store_refusalOfGroups : ByteArray := prog_1_method_39_code
def y_Store_refusalOfGroups : MethodName := ⟨"StampedStore", "refusalOfGroups", "(LStampedStore$Transaction;)I"⟩
def w_Store_refusalOfGroups : List Cond := .code y_Store_refusalOfGroups b_Store_refusalOfGroups 6 (some .int) :: w_all
theorem d_Store_refusalOfGroups_0 : decode b_Store_refusalOfGroups 0 = .ok (.iconst 0, 1) := by decide +kernel
theorem d_Store_refusalOfGroups_1 : decode b_Store_refusalOfGroups 1 = .ok (.istore_n 2, 1) := by decide +kernel
theorem d_Store_refusalOfGroups_2 : decode b_Store_refusalOfGroups 2 = .ok (.iconst 0, 1) := by decide +kernel
theorem d_Store_refusalOfGroups_3 : decode b_Store_refusalOfGroups 3 = .ok (.istore_n 3, 1) := by decide +kernel
theorem d_Store_refusalOfGroups_4 : decode b_Store_refusalOfGroups 4 = .ok (.iload_n 3, 1) := by decide +kernel
theorem d_Store_refusalOfGroups_5 : decode b_Store_refusalOfGroups 5 = .ok (.iconst 2, 1) := by decide +kernel
theorem d_Store_refusalOfGroups_6 : decode b_Store_refusalOfGroups 6 = .ok (.if_icmp .ge 75, 3) := by decide +kernel
theorem d_Store_refusalOfGroups_9 : decode b_Store_refusalOfGroups 9 = .ok (.aload_n 0, 1) := by decide +kernel
theorem d_Store_refusalOfGroups_10 : decode b_Store_refusalOfGroups 10 = .ok (.iload_n 3, 1) := by decide +kernel
theorem d_Store_refusalOfGroups_11 : decode b_Store_refusalOfGroups 11 = .ok (.invokevirtual 141, 3) := by decide +kernel
theorem d_Store_refusalOfGroups_14 : decode b_Store_refusalOfGroups 14 = .ok (.istore 4, 2) := by decide +kernel
theorem d_Store_refusalOfGroups_16 : decode b_Store_refusalOfGroups 16 = .ok (.aload_n 1, 1) := by decide +kernel
theorem d_Store_refusalOfGroups_17 : decode b_Store_refusalOfGroups 17 = .ok (.iload_n 3, 1) := by decide +kernel
theorem d_Store_refusalOfGroups_18 : decode b_Store_refusalOfGroups 18 = .ok (.invokevirtual 240, 3) := by decide +kernel
theorem d_Store_refusalOfGroups_21 : decode b_Store_refusalOfGroups 21 = .ok (.ifCond .eq 54, 3) := by decide +kernel
theorem d_Store_refusalOfGroups_24 : decode b_Store_refusalOfGroups 24 = .ok (.iload 4, 2) := by decide +kernel
theorem d_Store_refusalOfGroups_26 : decode b_Store_refusalOfGroups 26 = .ok (.iconst (-1), 1) := by decide +kernel
theorem d_Store_refusalOfGroups_27 : decode b_Store_refusalOfGroups 27 = .ok (.if_icmp .ne 6, 3) := by decide +kernel
theorem d_Store_refusalOfGroups_30 : decode b_Store_refusalOfGroups 30 = .ok (.goto 45, 3) := by decide +kernel
theorem d_Store_refusalOfGroups_33 : decode b_Store_refusalOfGroups 33 = .ok (.aload_n 0, 1) := by decide +kernel
theorem d_Store_refusalOfGroups_34 : decode b_Store_refusalOfGroups 34 = .ok (.getfield 11, 3) := by decide +kernel
theorem d_Store_refusalOfGroups_37 : decode b_Store_refusalOfGroups 37 = .ok (.iload 4, 2) := by decide +kernel
theorem d_Store_refusalOfGroups_39 : decode b_Store_refusalOfGroups 39 = .ok (.aaload, 1) := by decide +kernel
theorem d_Store_refusalOfGroups_40 : decode b_Store_refusalOfGroups 40 = .ok (.aload_n 0, 1) := by decide +kernel
theorem d_Store_refusalOfGroups_41 : decode b_Store_refusalOfGroups 41 = .ok (.getfield 11, 3) := by decide +kernel
theorem d_Store_refusalOfGroups_44 : decode b_Store_refusalOfGroups 44 = .ok (.iload 4, 2) := by decide +kernel
theorem d_Store_refusalOfGroups_46 : decode b_Store_refusalOfGroups 46 = .ok (.aaload, 1) := by decide +kernel
theorem d_Store_refusalOfGroups_47 : decode b_Store_refusalOfGroups 47 = .ok (.invokevirtual 243, 3) := by decide +kernel
theorem d_Store_refusalOfGroups_50 : decode b_Store_refusalOfGroups 50 = .ok (.invokevirtual 246, 3) := by decide +kernel
theorem d_Store_refusalOfGroups_53 : decode b_Store_refusalOfGroups 53 = .ok (.istore 5, 2) := by decide +kernel
theorem d_Store_refusalOfGroups_55 : decode b_Store_refusalOfGroups 55 = .ok (.iload 5, 2) := by decide +kernel
theorem d_Store_refusalOfGroups_57 : decode b_Store_refusalOfGroups 57 = .ok (.bipush (-6), 2) := by decide +kernel
theorem d_Store_refusalOfGroups_59 : decode b_Store_refusalOfGroups 59 = .ok (.if_icmp .ne 6, 3) := by decide +kernel
theorem d_Store_refusalOfGroups_62 : decode b_Store_refusalOfGroups 62 = .ok (.bipush (-6), 2) := by decide +kernel
theorem d_Store_refusalOfGroups_64 : decode b_Store_refusalOfGroups 64 = .ok (.ireturn, 1) := by decide +kernel
theorem d_Store_refusalOfGroups_65 : decode b_Store_refusalOfGroups 65 = .ok (.iload 5, 2) := by decide +kernel
theorem d_Store_refusalOfGroups_67 : decode b_Store_refusalOfGroups 67 = .ok (.bipush (-7), 2) := by decide +kernel
theorem d_Store_refusalOfGroups_69 : decode b_Store_refusalOfGroups 69 = .ok (.if_icmp .ne 6, 3) := by decide +kernel
theorem d_Store_refusalOfGroups_72 : decode b_Store_refusalOfGroups 72 = .ok (.bipush (-7), 2) := by decide +kernel
theorem d_Store_refusalOfGroups_74 : decode b_Store_refusalOfGroups 74 = .ok (.istore_n 2, 1) := by decide +kernel
theorem d_Store_refusalOfGroups_75 : decode b_Store_refusalOfGroups 75 = .ok (.iinc 3 1, 3) := by decide +kernel
theorem d_Store_refusalOfGroups_78 : decode b_Store_refusalOfGroups 78 = .ok (.goto (-74), 3) := by decide +kernel
theorem d_Store_refusalOfGroups_81 : decode b_Store_refusalOfGroups 81 = .ok (.iload_n 2, 1) := by decide +kernel
theorem d_Store_refusalOfGroups_82 : decode b_Store_refusalOfGroups 82 = .ok (.ireturn, 1) := by decide +kernel
def B_Store_refusalOfGroups_75 (R : Nat → Nat → Nat) (I : St) (k4 : Nat → Nat → Int32 → Int32 → Option Int32) (a0 : Nat) (a1 : Nat) (x2 : Int32) (x3 : Int32) : Option Int32 := k4 a0 a1 x2 (x3 + 1)
set_option maxHeartbeats 4000000 in
set_option maxRecDepth 100000 in
theorem b_Store_refusalOfGroups_75 {p : Program} {l : Launch} {e : Env} {s : State} {m : MethodId} {args : Array Value} {below : List Frame} {meth : Method} {c : Code} {g : Sg} {R : Nat → Nat → Nat} {I : St} {v : Int32} (cx : Cx p s m args meth c g R R_Store b_Store_refusalOfGroups 6 (some .int)) {k4 : Nat → Nat → Int32 → Int32 → Option Int32} (hk4 : ∀ (a0 : Nat) (a1 : Nat) (x2 : Int32) (x3 : Int32) (H : Heap) (locs : List Loc) (ls : Array Slot), okA g 4 0 a0 → okA g 3 0 a1 → k4 a0 a1 x2 x3 = some v → wW g R I H → va_S (· ∈ g.L) s.heap H locs → lv_has ls 6 [(0, .ref a0), (1, .ref a1), (2, .int x2), (3, .int x3)] → W p l e { frames := 3, cells := 0, slots := 0, locals := 65 } s m args below meth c H locs 0 0 (MQ below (Qi g R v I) args s 0 0 (· ∈ g.L)) (F0 m 4 ls [])) : ∀ (a0 : Nat) (a1 : Nat) (x2 : Int32) (x3 : Int32) (H : Heap) (locs : List Loc) (ls : Array Slot), okA g 4 0 a0 → okA g 3 0 a1 → B_Store_refusalOfGroups_75 R I k4 a0 a1 x2 x3 = some v → wW g R I H → va_S (· ∈ g.L) s.heap H locs → lv_has ls 6 [(0, .ref a0), (1, .ref a1), (2, .int x2), (3, .int x3)] → W p l e { frames := 3, cells := 0, slots := 0, locals := 65 } s m args below meth c H locs 0 0 (MQ below (Qi g R v I) args s 0 0 (· ∈ g.L)) (F0 m 75 ls []) := by
  have ⟨hx, hb, hml, hr, hlk, hown, hall, hT, hK⟩ := cx
  intro a0 a1 x2 x3 H locs ls o0 o1 h hP hS hl
  unfold B_Store_refusalOfGroups_75 at h
  refine lv_iinc (k := 3) (v := (x3 + 1)) (lv' := [(3, .int (x3 + 1)), (0, .ref a0), (1, .ref a1), (2, .int x2)]) hx hb d_Store_refusalOfGroups_75 hl rfl (by rw [show Int32.ofInt 1 = (1 : Int32) from by decide]) (Nat.le_of_ble_eq_true rfl) rfl (fun ls hl => ?_)
  refine lv_goto hx hb d_Store_refusalOfGroups_78 rfl ?_
  exact hk4 _ _ _ _ _ _ _ o0 o1 h hP hS (lv_sub hl [1, 2, 3, 0] rfl)
def B_Store_refusalOfGroups_4 (R : Nat → Nat → Nat) (I : St) : Nat → Nat → Nat → Int32 → Int32 → Option Int32
  | 0, _, _, _, _ => none
  | f + 1, a0, a1, x2, x3 => (if (2 : Int32) ≤ x3 then some x2 else (ob (F_Store_readyNode R a0 x3 I) (fun v11 => (ob (F_Txn_usesGroup R a1 x3 I) (fun v18 => (if v18 = 0 then B_Store_refusalOfGroups_75 R I (B_Store_refusalOfGroups_4 R I f) a0 a1 x2 x3 else (if v11 = (-1 : Int32) then B_Store_refusalOfGroups_75 R I (B_Store_refusalOfGroups_4 R I f) a0 a1 x2 x3 else (chk v11 6 ((chk v11 6 ((ob (F_Node_nextStamp R (R (R a0 1) v11.toNatClampNeg) I) (fun v47 => (ob (F_Node_refusalOf R (R (R a0 1) v11.toNatClampNeg) v47 I) (fun v50 => (if v50 = (-6 : Int32) then some (-6 : Int32) else (if v50 = (-7 : Int32) then B_Store_refusalOfGroups_75 R I (B_Store_refusalOfGroups_4 R I f) a0 a1 (-7 : Int32) x3 else B_Store_refusalOfGroups_75 R I (B_Store_refusalOfGroups_4 R I f) a0 a1 x2 x3)))))))))))))))))
set_option maxHeartbeats 4000000 in
set_option maxRecDepth 100000 in
theorem b_Store_refusalOfGroups_4 {p : Program} {l : Launch} {e : Env} {s : State} {m : MethodId} {args : Array Value} {below : List Frame} {meth : Method} {c : Code} {g : Sg} {R : Nat → Nat → Nat} {I : St} {v : Int32} (cx : Cx p s m args meth c g R R_Store b_Store_refusalOfGroups 6 (some .int)) (f : Nat) : ∀ (a0 : Nat) (a1 : Nat) (x2 : Int32) (x3 : Int32) (H : Heap) (locs : List Loc) (ls : Array Slot), okA g 4 0 a0 → okA g 3 0 a1 → B_Store_refusalOfGroups_4 R I f a0 a1 x2 x3 = some v → wW g R I H → va_S (· ∈ g.L) s.heap H locs → lv_has ls 6 [(0, .ref a0), (1, .ref a1), (2, .int x2), (3, .int x3)] → W p l e { frames := 3, cells := 0, slots := 0, locals := 65 } s m args below meth c H locs 0 0 (MQ below (Qi g R v I) args s 0 0 (· ∈ g.L)) (F0 m 4 ls []) := by
  have ⟨hx, hb, hml, hr, hlk, hown, hall, hT, hK⟩ := cx
  induction f with
  | zero => intro a0 a1 x2 x3 H locs ls o0 o1 h; unfold B_Store_refusalOfGroups_4 at h; cases h
  | succ f ih =>
    intro a0 a1 x2 x3 H locs ls o0 o1 h hP hS hl
    unfold B_Store_refusalOfGroups_4 at h
    refine lv_iload_n hx hb d_Store_refusalOfGroups_4 rfl (lv_at hl 3 rfl) ?_
    refine lv_iconst (v := 2) hx hb d_Store_refusalOfGroups_5 (by decide) ?_
    refine lv_icmp_ge hx hb d_Store_refusalOfGroups_6 rfl (fun hc => ?_) (fun hc => ?_)
    · replace h := i_pos hc h
      refine lv_iload_n hx hb d_Store_refusalOfGroups_81 rfl (lv_at hl 2 rfl) ?_
      obtain rfl := Option.some.inj h
      exact gg_iret hx hb hr hlk hK hP hS d_Store_refusalOfGroups_82
    · replace h := i_neg hc h
      refine lv_aload_n hx hb d_Store_refusalOfGroups_9 rfl (lv_at hl 0 rfl) ?_
      refine lv_iload_n hx hb d_Store_refusalOfGroups_10 rfl (lv_at hl 3 rfl) ?_
      obtain ⟨v11, e11, h⟩ := ob_el h
      refine gg_Vi (As := [.int x3]) (rest := []) (ci := 4) (C := R_Store) (T := F_Store) (N := 4) ⟨hx, hb, hml, hown, hall⟩ (c_Store_readyNode l hT o0 e11) (cwV 1 hall (gV m_172 m_173 m_174 m_6 m_169) rfl rfl rfl (by decide +kernel) ⟨Nat.le_of_ble_eq_true rfl, Nat.le_of_ble_eq_true rfl⟩) hK hP hS o0.1 (wE_4 o0.2) rfl rfl hl.1 rfl (Nat.le_of_ble_eq_true rfl) d_Store_refusalOfGroups_11 (fun H locs hP hS => ?_)
      refine lv_istore (lv' := [(4, .int v11), (0, .ref a0), (1, .ref a1), (2, .int x2), (3, .int x3)]) hx hb d_Store_refusalOfGroups_14 hl (Nat.le_of_ble_eq_true rfl) rfl (fun ls hl => ?_)
      refine lv_aload_n hx hb d_Store_refusalOfGroups_16 rfl (lv_at hl 2 rfl) ?_
      refine lv_iload_n hx hb d_Store_refusalOfGroups_17 rfl (lv_at hl 4 rfl) ?_
      obtain ⟨v18, e18, h⟩ := ob_el h
      refine gg_Vi (As := [.int x3]) (rest := []) (ci := 3) (C := R_Txn) (T := F_Txn) (N := 5) ⟨hx, hb, hml, hown, hall⟩ (c_Txn_usesGroup l hT o1 e18) (cwV 1 hall (gV m_252 m_253 m_254 m_180 m_251) rfl rfl rfl (by decide +kernel) ⟨Nat.le_of_ble_eq_true rfl, Nat.le_of_ble_eq_true rfl⟩) hK hP hS o1.1 (wE_3 o1.2) rfl rfl hl.1 rfl (Nat.le_of_ble_eq_true rfl) d_Store_refusalOfGroups_18 (fun H locs hP hS => ?_)
      refine lv_if_eq hx hb d_Store_refusalOfGroups_21 rfl (fun hc => ?_) (fun hc => ?_)
      · replace h := i_pos hc h
        exact b_Store_refusalOfGroups_75 cx ih _ _ _ _ _ _ _ o0 o1 h hP hS (lv_sub hl [1, 2, 3, 4] rfl)
      · replace h := i_neg hc h
        refine lv_iload hx hb d_Store_refusalOfGroups_24 (lv_at hl 0 rfl) ?_
        refine lv_iconst (v := (-1)) hx hb d_Store_refusalOfGroups_26 (by decide) ?_
        refine lv_icmp_ne hx hb d_Store_refusalOfGroups_27 rfl (fun hc => ?_) (fun hc => ?_)
        · replace h := i_neg hc h
          refine lv_aload_n hx hb d_Store_refusalOfGroups_33 rfl (lv_at hl 1 rfl) ?_
          refine gg_get (C := R_Store) (T := F_Store) (N := 4) (ci := 4) hx hb hall i_Store hown hK hP o0.1 (wE_4 o0.2) rfl 1 (by decide) (hall _ m_8) (fun _ h9 => h9) rfl d_Store_refusalOfGroups_34 ?_
          have o_34 : okA g 8 6 (R a0 1) := ty_Store_1 hT o0
          refine lv_iload hx hb d_Store_refusalOfGroups_37 (lv_at hl 0 rfl) ?_
          obtain ⟨hi39, h⟩ := chk_el h
          refine gg_nald hx hb hK hP o_34 hi39 d_Store_refusalOfGroups_39 ?_
          have o_39 : okA g 2 0 (R (R a0 1) v11.toNatClampNeg) := ty_8 hT o_34 _
          refine lv_aload_n hx hb d_Store_refusalOfGroups_40 rfl (lv_at hl 1 rfl) ?_
          refine gg_get (C := R_Store) (T := F_Store) (N := 4) (ci := 4) hx hb hall i_Store hown hK hP o0.1 (wE_4 o0.2) rfl 1 (by decide) (hall _ m_8) (fun _ h9 => h9) rfl d_Store_refusalOfGroups_41 ?_
          have o_41 : okA g 8 6 (R a0 1) := ty_Store_1 hT o0
          refine lv_iload hx hb d_Store_refusalOfGroups_44 (lv_at hl 0 rfl) ?_
          obtain ⟨hi46, h⟩ := chk_el h
          refine gg_nald hx hb hK hP o_41 hi46 d_Store_refusalOfGroups_46 ?_
          have o_46 : okA g 2 0 (R (R a0 1) v11.toNatClampNeg) := ty_8 hT o_41 _
          obtain ⟨v47, e47, h⟩ := ob_el h
          refine gg_Vi (As := []) (rest := [.ref (R (R a0 1) v11.toNatClampNeg)]) (ci := 2) (C := R_Node) (T := F_Node) (N := 10) ⟨hx, hb, hml, hown, hall⟩ (c_Node_nextStamp l hT o_46 e47) (cwV 0 hall (gV m_256 m_92 m_93 m_48 m_80) rfl rfl rfl (by decide +kernel) ⟨Nat.le_of_ble_eq_true rfl, Nat.le_of_ble_eq_true rfl⟩) hK hP hS o_46.1 (wE_2 o_46.2) rfl rfl hl.1 rfl (Nat.le_of_ble_eq_true rfl) d_Store_refusalOfGroups_47 (fun H locs hP hS => ?_)
          obtain ⟨v50, e50, h⟩ := ob_el h
          refine gg_Vi (As := [.int v47]) (rest := []) (ci := 2) (C := R_Node) (T := F_Node) (N := 10) ⟨hx, hb, hml, hown, hall⟩ (c_Node_refusalOf l hT o_39 e50) (cwV 1 hall (gV m_257 m_95 m_96 m_48 m_86) rfl rfl rfl (by decide +kernel) ⟨Nat.le_of_ble_eq_true rfl, Nat.le_of_ble_eq_true rfl⟩) hK hP hS o_39.1 (wE_2 o_39.2) rfl rfl hl.1 rfl (Nat.le_of_ble_eq_true rfl) d_Store_refusalOfGroups_50 (fun H locs hP hS => ?_)
          refine lv_istore (lv' := [(5, .int v50), (4, .int v11), (0, .ref a0), (1, .ref a1), (2, .int x2), (3, .int x3)]) hx hb d_Store_refusalOfGroups_53 hl (Nat.le_of_ble_eq_true rfl) rfl (fun ls hl => ?_)
          refine lv_iload hx hb d_Store_refusalOfGroups_55 (lv_at hl 0 rfl) ?_
          refine lv_bipush (v := (-6)) hx hb d_Store_refusalOfGroups_57 (by decide) ?_
          refine lv_icmp_ne hx hb d_Store_refusalOfGroups_59 rfl (fun hc => ?_) (fun hc => ?_)
          · replace h := i_neg hc h
            refine lv_iload hx hb d_Store_refusalOfGroups_65 (lv_at hl 0 rfl) ?_
            refine lv_bipush (v := (-7)) hx hb d_Store_refusalOfGroups_67 (by decide) ?_
            refine lv_icmp_ne hx hb d_Store_refusalOfGroups_69 rfl (fun hc => ?_) (fun hc => ?_)
            · replace h := i_neg hc h
              exact b_Store_refusalOfGroups_75 cx ih _ _ _ _ _ _ _ o0 o1 h hP hS (lv_sub hl [2, 3, 4, 5] rfl)
            · replace h := i_pos hc h
              refine lv_bipush (v := (-7)) hx hb d_Store_refusalOfGroups_72 (by decide) ?_
              refine lv_istore_n (lv' := [(2, .int (-7 : Int32)), (5, .int v50), (4, .int v11), (0, .ref a0), (1, .ref a1), (3, .int x3)]) hx hb d_Store_refusalOfGroups_74 rfl hl (Nat.le_of_ble_eq_true rfl) rfl (fun ls hl => ?_)
              exact b_Store_refusalOfGroups_75 cx ih _ _ _ _ _ _ _ o0 o1 h hP hS (lv_sub hl [3, 4, 0, 5] rfl)
          · replace h := i_pos hc h
            refine lv_bipush (v := (-6)) hx hb d_Store_refusalOfGroups_62 (by decide) ?_
            obtain rfl := Option.some.inj h
            exact gg_iret hx hb hr hlk hK hP hS d_Store_refusalOfGroups_64
        · replace h := i_pos hc h
          refine lv_goto hx hb d_Store_refusalOfGroups_30 rfl ?_
          exact b_Store_refusalOfGroups_75 cx ih _ _ _ _ _ _ _ o0 o1 h hP hS (lv_sub hl [1, 2, 3, 4] rfl)
def F_Store_refusalOfGroups (R : Nat → Nat → Nat) (a0 : Nat) (a1 : Nat) (I : St) : Option Int32 := B_Store_refusalOfGroups_4 R I 100 a0 a1 (0 : Int32) (0 : Int32)
set_option maxHeartbeats 4000000 in
set_option maxRecDepth 100000 in
theorem c_Store_refusalOfGroups (l : Launch) {g : Sg} {R : Nat → Nat → Nat} (hT : Ty g R) {a0 : Nat} (o0 : okA g 4 0 a0) {a1 : Nat} (o1 : okA g 3 0 a1) {I : St} {v : Int32} (h : F_Store_refusalOfGroups R a0 a1 I = some v) : Cti l g R y_Store_refusalOfGroups w_Store_refusalOfGroups 3 65 [.ref a0, .ref a1] I v I := by
  unfold Cti
  refine Met.ofW (cc := b_Store_refusalOfGroups) (maxL := 6) (ret := (some .int)) (by decide) rfl ?_
  intro p e s m args below meth c s₁ B hml hv
  obtain ⟨rfl, hP, hK⟩ := hv
  have hts := atoms_spec (ws := w_Store_refusalOfGroups) B.pre
  have hall : ∀ w ∈ w_all, w.before _ s = true := fun w hw => hts w (List.mem_cons_of_mem _ hw)
  have hown : s.vm.findClass R_Store = some m.cls := findClass_of_methodNamed B.named
  have hx := B.exec
  have hb := B.bytes
  have hr := B.returns
  have hlk := B.notSynchronized
  have cx : Cx p s m _ meth c g R R_Store b_Store_refusalOfGroups 6 (some .int) := ⟨hx, hb, hml, hr, hlk, hown, hall, hT, hK⟩
  have hl := lv_entry ([.ref a0, .ref a1]) (n := 6) (Nat.le_of_ble_eq_true rfl)
  rw [lg_entry_eq]
  generalize (lg_sl ([.ref a0, .ref a1]) ++ List.replicate (6 - (lg_sl ([.ref a0, .ref a1])).length) Slot.unset).toArray = ls at hl ⊢
  have hl : lv_has ls 6 [(0, .ref a0), (1, .ref a1)] := hl
  have hS : va_S (· ∈ g.L) s.heap s.heap [] := va_S.rf
  unfold F_Store_refusalOfGroups at h
  refine lv_iconst (v := 0) hx hb d_Store_refusalOfGroups_0 (by decide) ?_
  refine lv_istore_n (lv' := [(2, .int (0 : Int32)), (0, .ref a0), (1, .ref a1)]) hx hb d_Store_refusalOfGroups_1 rfl hl (Nat.le_of_ble_eq_true rfl) rfl (fun ls hl => ?_)
  refine lv_iconst (v := 0) hx hb d_Store_refusalOfGroups_2 (by decide) ?_
  refine lv_istore_n (lv' := [(3, .int (0 : Int32)), (2, .int (0 : Int32)), (0, .ref a0), (1, .ref a1)]) hx hb d_Store_refusalOfGroups_3 rfl hl (Nat.le_of_ble_eq_true rfl) rfl (fun ls hl => ?_)
  exact b_Store_refusalOfGroups_4 cx 100 _ _ _ _ _ _ _ o0 o1 h hP hS (lv_sub hl [2, 3, 1, 0] rfl)
abbrev b_Store_isHeldForOther : ByteArray := prog_1_method_36_code
def y_Store_isHeldForOther : MethodName := ⟨"StampedStore", "isHeldForOther", "(LStampedStore$Log;II)Z"⟩
def w_Store_isHeldForOther : List Cond := .code y_Store_isHeldForOther b_Store_isHeldForOther 6 (some .boolean) :: w_all
theorem d_Store_isHeldForOther_0 : decode b_Store_isHeldForOther 0 = .ok (.iconst 0, 1) := by decide +kernel
theorem d_Store_isHeldForOther_1 : decode b_Store_isHeldForOther 1 = .ok (.istore 4, 2) := by decide +kernel
theorem d_Store_isHeldForOther_3 : decode b_Store_isHeldForOther 3 = .ok (.iload 4, 2) := by decide +kernel
theorem d_Store_isHeldForOther_5 : decode b_Store_isHeldForOther 5 = .ok (.aload_n 0, 1) := by decide +kernel
theorem d_Store_isHeldForOther_6 : decode b_Store_isHeldForOther 6 = .ok (.getfield 119, 3) := by decide +kernel
theorem d_Store_isHeldForOther_9 : decode b_Store_isHeldForOther 9 = .ok (.if_icmp .ge 54, 3) := by decide +kernel
theorem d_Store_isHeldForOther_12 : decode b_Store_isHeldForOther 12 = .ok (.aload_n 0, 1) := by decide +kernel
theorem d_Store_isHeldForOther_13 : decode b_Store_isHeldForOther 13 = .ok (.getfield 17, 3) := by decide +kernel
theorem d_Store_isHeldForOther_16 : decode b_Store_isHeldForOther 16 = .ok (.iload 4, 2) := by decide +kernel
theorem d_Store_isHeldForOther_18 : decode b_Store_isHeldForOther 18 = .ok (.aaload, 1) := by decide +kernel
theorem d_Store_isHeldForOther_19 : decode b_Store_isHeldForOther 19 = .ok (.astore 5, 2) := by decide +kernel
theorem d_Store_isHeldForOther_21 : decode b_Store_isHeldForOther 21 = .ok (.iload 4, 2) := by decide +kernel
theorem d_Store_isHeldForOther_23 : decode b_Store_isHeldForOther 23 = .ok (.iload_n 3, 1) := by decide +kernel
theorem d_Store_isHeldForOther_24 : decode b_Store_isHeldForOther 24 = .ok (.if_icmp .eq 33, 3) := by decide +kernel
theorem d_Store_isHeldForOther_27 : decode b_Store_isHeldForOther 27 = .ok (.aload 5, 2) := by decide +kernel
theorem d_Store_isHeldForOther_29 : decode b_Store_isHeldForOther 29 = .ok (.getfield 236, 3) := by decide +kernel
theorem d_Store_isHeldForOther_32 : decode b_Store_isHeldForOther 32 = .ok (.iload_n 2, 1) := by decide +kernel
theorem d_Store_isHeldForOther_33 : decode b_Store_isHeldForOther 33 = .ok (.baload, 1) := by decide +kernel
theorem d_Store_isHeldForOther_34 : decode b_Store_isHeldForOther 34 = .ok (.ifCond .ne 12, 3) := by decide +kernel
theorem d_Store_isHeldForOther_37 : decode b_Store_isHeldForOther 37 = .ok (.aload 5, 2) := by decide +kernel
theorem d_Store_isHeldForOther_39 : decode b_Store_isHeldForOther 39 = .ok (.iload_n 2, 1) := by decide +kernel
theorem d_Store_isHeldForOther_40 : decode b_Store_isHeldForOther 40 = .ok (.invokevirtual 131, 3) := by decide +kernel
theorem d_Store_isHeldForOther_43 : decode b_Store_isHeldForOther 43 = .ok (.ifCond .eq 14, 3) := by decide +kernel
theorem d_Store_isHeldForOther_46 : decode b_Store_isHeldForOther 46 = .ok (.aload_n 1, 1) := by decide +kernel
theorem d_Store_isHeldForOther_47 : decode b_Store_isHeldForOther 47 = .ok (.iload 4, 2) := by decide +kernel
theorem d_Store_isHeldForOther_49 : decode b_Store_isHeldForOther 49 = .ok (.invokevirtual 233, 3) := by decide +kernel
theorem d_Store_isHeldForOther_52 : decode b_Store_isHeldForOther 52 = .ok (.ifCond .eq 5, 3) := by decide +kernel
theorem d_Store_isHeldForOther_55 : decode b_Store_isHeldForOther 55 = .ok (.iconst 1, 1) := by decide +kernel
theorem d_Store_isHeldForOther_56 : decode b_Store_isHeldForOther 56 = .ok (.ireturn, 1) := by decide +kernel
theorem d_Store_isHeldForOther_57 : decode b_Store_isHeldForOther 57 = .ok (.iinc 4 1, 3) := by decide +kernel
theorem d_Store_isHeldForOther_60 : decode b_Store_isHeldForOther 60 = .ok (.goto (-57), 3) := by decide +kernel
theorem d_Store_isHeldForOther_63 : decode b_Store_isHeldForOther 63 = .ok (.iconst 0, 1) := by decide +kernel
theorem d_Store_isHeldForOther_64 : decode b_Store_isHeldForOther 64 = .ok (.ireturn, 1) := by decide +kernel
def B_Store_isHeldForOther_57 (R : Nat → Nat → Nat) (I : St) (k3 : Nat → Nat → Int32 → Int32 → Int32 → Option Int32) (a0 : Nat) (a1 : Nat) (x2 : Int32) (x3 : Int32) (x4 : Int32) : Option Int32 := k3 a0 a1 x2 x3 (x4 + 1)
set_option maxHeartbeats 4000000 in
set_option maxRecDepth 100000 in
theorem b_Store_isHeldForOther_57 {p : Program} {l : Launch} {e : Env} {s : State} {m : MethodId} {args : Array Value} {below : List Frame} {meth : Method} {c : Code} {g : Sg} {R : Nat → Nat → Nat} {I : St} {v : Int32} (cx : Cx p s m args meth c g R R_Store b_Store_isHeldForOther 6 (some .boolean)) {k3 : Nat → Nat → Int32 → Int32 → Int32 → Option Int32} (hk3 : ∀ (a0 : Nat) (a1 : Nat) (x2 : Int32) (x3 : Int32) (x4 : Int32) (H : Heap) (locs : List Loc) (ls : Array Slot), okA g 4 0 a0 → okA g 1 0 a1 → k3 a0 a1 x2 x3 x4 = some v → wW g R I H → va_S (· ∈ g.L) s.heap H locs → lv_has ls 6 [(0, .ref a0), (1, .ref a1), (2, .int x2), (3, .int x3), (4, .int x4)] → W p l e { frames := 4, cells := 0, slots := 0, locals := 88 } s m args below meth c H locs 0 0 (MQ below (Qi g R v I) args s 0 0 (· ∈ g.L)) (F0 m 3 ls [])) : ∀ (a0 : Nat) (a1 : Nat) (x2 : Int32) (x3 : Int32) (x4 : Int32) (H : Heap) (locs : List Loc) (ls : Array Slot), okA g 4 0 a0 → okA g 1 0 a1 → B_Store_isHeldForOther_57 R I k3 a0 a1 x2 x3 x4 = some v → wW g R I H → va_S (· ∈ g.L) s.heap H locs → lv_has ls 6 [(0, .ref a0), (1, .ref a1), (2, .int x2), (3, .int x3), (4, .int x4)] → W p l e { frames := 4, cells := 0, slots := 0, locals := 88 } s m args below meth c H locs 0 0 (MQ below (Qi g R v I) args s 0 0 (· ∈ g.L)) (F0 m 57 ls []) := by
  have ⟨hx, hb, hml, hr, hlk, hown, hall, hT, hK⟩ := cx
  intro a0 a1 x2 x3 x4 H locs ls o0 o1 h hP hS hl
  unfold B_Store_isHeldForOther_57 at h
  refine lv_iinc (k := 4) (v := (x4 + 1)) (lv' := [(4, .int (x4 + 1)), (0, .ref a0), (1, .ref a1), (2, .int x2), (3, .int x3)]) hx hb d_Store_isHeldForOther_57 hl rfl (by rw [show Int32.ofInt 1 = (1 : Int32) from by decide]) (Nat.le_of_ble_eq_true rfl) rfl (fun ls hl => ?_)
  refine lv_goto hx hb d_Store_isHeldForOther_60 rfl ?_
  exact hk3 _ _ _ _ _ _ _ _ o0 o1 h hP hS (lv_sub hl [1, 2, 3, 4, 0] rfl)
def B_Store_isHeldForOther_46 (R : Nat → Nat → Nat) (I : St) (k3 : Nat → Nat → Int32 → Int32 → Int32 → Option Int32) (a0 : Nat) (a1 : Nat) (x2 : Int32) (x3 : Int32) (x4 : Int32) : Option Int32 := (ob (F_Log_holdsFor R a1 x4 I) (fun v49 => (if v49 = 0 then B_Store_isHeldForOther_57 R I k3 a0 a1 x2 x3 x4 else some (1 : Int32))))
set_option maxHeartbeats 4000000 in
set_option maxRecDepth 100000 in
theorem b_Store_isHeldForOther_46 {p : Program} {l : Launch} {e : Env} {s : State} {m : MethodId} {args : Array Value} {below : List Frame} {meth : Method} {c : Code} {g : Sg} {R : Nat → Nat → Nat} {I : St} {v : Int32} (cx : Cx p s m args meth c g R R_Store b_Store_isHeldForOther 6 (some .boolean)) {k3 : Nat → Nat → Int32 → Int32 → Int32 → Option Int32} (hk3 : ∀ (a0 : Nat) (a1 : Nat) (x2 : Int32) (x3 : Int32) (x4 : Int32) (H : Heap) (locs : List Loc) (ls : Array Slot), okA g 4 0 a0 → okA g 1 0 a1 → k3 a0 a1 x2 x3 x4 = some v → wW g R I H → va_S (· ∈ g.L) s.heap H locs → lv_has ls 6 [(0, .ref a0), (1, .ref a1), (2, .int x2), (3, .int x3), (4, .int x4)] → W p l e { frames := 4, cells := 0, slots := 0, locals := 88 } s m args below meth c H locs 0 0 (MQ below (Qi g R v I) args s 0 0 (· ∈ g.L)) (F0 m 3 ls [])) : ∀ (a0 : Nat) (a1 : Nat) (x2 : Int32) (x3 : Int32) (x4 : Int32) (H : Heap) (locs : List Loc) (ls : Array Slot), okA g 4 0 a0 → okA g 1 0 a1 → B_Store_isHeldForOther_46 R I k3 a0 a1 x2 x3 x4 = some v → wW g R I H → va_S (· ∈ g.L) s.heap H locs → lv_has ls 6 [(0, .ref a0), (1, .ref a1), (2, .int x2), (3, .int x3), (4, .int x4)] → W p l e { frames := 4, cells := 0, slots := 0, locals := 88 } s m args below meth c H locs 0 0 (MQ below (Qi g R v I) args s 0 0 (· ∈ g.L)) (F0 m 46 ls []) := by
  have ⟨hx, hb, hml, hr, hlk, hown, hall, hT, hK⟩ := cx
  intro a0 a1 x2 x3 x4 H locs ls o0 o1 h hP hS hl
  unfold B_Store_isHeldForOther_46 at h
  refine lv_aload_n hx hb d_Store_isHeldForOther_46 rfl (lv_at hl 1 rfl) ?_
  refine lv_iload hx hb d_Store_isHeldForOther_47 (lv_at hl 4 rfl) ?_
  obtain ⟨v49, e49, h⟩ := ob_el h
  refine gg_Vi (As := [.int x4]) (rest := []) (ci := 1) (C := R_Log) (T := F_Log) (N := 7) ⟨hx, hb, hml, hown, hall⟩ (c_Log_holdsFor l hT o1 e49) (cwV 1 hall (gV m_206 m_207 m_208 m_38 m_201) rfl rfl rfl (by decide +kernel) ⟨Nat.le_of_ble_eq_true rfl, Nat.le_of_ble_eq_true rfl⟩) hK hP hS o1.1 (wE_1 o1.2) rfl rfl hl.1 rfl (Nat.le_of_ble_eq_true rfl) d_Store_isHeldForOther_49 (fun H locs hP hS => ?_)
  refine lv_if_eq hx hb d_Store_isHeldForOther_52 rfl (fun hc => ?_) (fun hc => ?_)
  · replace h := i_pos hc h
    exact b_Store_isHeldForOther_57 cx hk3 _ _ _ _ _ _ _ _ o0 o1 h hP hS (lv_sub hl [0, 1, 2, 3, 4] rfl)
  · replace h := i_neg hc h
    refine lv_iconst (v := 1) hx hb d_Store_isHeldForOther_55 (by decide) ?_
    obtain rfl := Option.some.inj h
    exact gg_zret hx hb hr hlk rfl hK hP hS d_Store_isHeldForOther_56
def B_Store_isHeldForOther_3 (R : Nat → Nat → Nat) (I : St) : Nat → Nat → Nat → Int32 → Int32 → Int32 → Option Int32
  | 0, _, _, _, _, _ => none
  | f + 1, a0, a1, x2, x3, x4 => (if (I a0 3) ≤ x4 then some (0 : Int32) else (chk x4 16 ((if x4 = x3 then B_Store_isHeldForOther_57 R I (B_Store_isHeldForOther_3 R I f) a0 a1 x2 x3 x4 else (chk x2 8 ((if (I (R (R (R a0 2) x4.toNatClampNeg) 0) x2.toNatClampNeg) = 0 then (ob (F_Txn_writes R (R (R a0 2) x4.toNatClampNeg) x2 I) (fun v40 => (if v40 = 0 then B_Store_isHeldForOther_57 R I (B_Store_isHeldForOther_3 R I f) a0 a1 x2 x3 x4 else B_Store_isHeldForOther_46 R I (B_Store_isHeldForOther_3 R I f) a0 a1 x2 x3 x4))) else B_Store_isHeldForOther_46 R I (B_Store_isHeldForOther_3 R I f) a0 a1 x2 x3 x4)))))))
set_option maxHeartbeats 4000000 in
set_option maxRecDepth 100000 in
theorem b_Store_isHeldForOther_3 {p : Program} {l : Launch} {e : Env} {s : State} {m : MethodId} {args : Array Value} {below : List Frame} {meth : Method} {c : Code} {g : Sg} {R : Nat → Nat → Nat} {I : St} {v : Int32} (cx : Cx p s m args meth c g R R_Store b_Store_isHeldForOther 6 (some .boolean)) (f : Nat) : ∀ (a0 : Nat) (a1 : Nat) (x2 : Int32) (x3 : Int32) (x4 : Int32) (H : Heap) (locs : List Loc) (ls : Array Slot), okA g 4 0 a0 → okA g 1 0 a1 → B_Store_isHeldForOther_3 R I f a0 a1 x2 x3 x4 = some v → wW g R I H → va_S (· ∈ g.L) s.heap H locs → lv_has ls 6 [(0, .ref a0), (1, .ref a1), (2, .int x2), (3, .int x3), (4, .int x4)] → W p l e { frames := 4, cells := 0, slots := 0, locals := 88 } s m args below meth c H locs 0 0 (MQ below (Qi g R v I) args s 0 0 (· ∈ g.L)) (F0 m 3 ls []) := by
  have ⟨hx, hb, hml, hr, hlk, hown, hall, hT, hK⟩ := cx
  induction f with
  | zero => intro a0 a1 x2 x3 x4 H locs ls o0 o1 h; unfold B_Store_isHeldForOther_3 at h; cases h
  | succ f ih =>
    intro a0 a1 x2 x3 x4 H locs ls o0 o1 h hP hS hl
    unfold B_Store_isHeldForOther_3 at h
    refine lv_iload hx hb d_Store_isHeldForOther_3 (lv_at hl 4 rfl) ?_
    refine lv_aload_n hx hb d_Store_isHeldForOther_5 rfl (lv_at hl 0 rfl) ?_
    refine gg_get (C := R_Store) (T := F_Store) (N := 4) (ci := 4) hx hb hall i_Store hown hK hP o0.1 (wE_4 o0.2) rfl 3 (by decide) (hall _ m_158) (fun _ h9 => h9) rfl d_Store_isHeldForOther_6 ?_
    refine lv_icmp_ge hx hb d_Store_isHeldForOther_9 rfl (fun hc => ?_) (fun hc => ?_)
    · replace h := i_pos hc h
      refine lv_iconst (v := 0) hx hb d_Store_isHeldForOther_63 (by decide) ?_
      obtain rfl := Option.some.inj h
      exact gg_zret hx hb hr hlk rfl hK hP hS d_Store_isHeldForOther_64
    · replace h := i_neg hc h
      refine lv_aload_n hx hb d_Store_isHeldForOther_12 rfl (lv_at hl 0 rfl) ?_
      refine gg_get (C := R_Store) (T := F_Store) (N := 4) (ci := 4) hx hb hall i_Store hown hK hP o0.1 (wE_4 o0.2) rfl 2 (by decide) (hall _ m_202) (fun _ h9 => h9) rfl d_Store_isHeldForOther_13 ?_
      have o_13 : okA g 9 16 (R a0 2) := ty_Store_2 hT o0
      refine lv_iload hx hb d_Store_isHeldForOther_16 (lv_at hl 4 rfl) ?_
      obtain ⟨hi18, h⟩ := chk_el h
      refine gg_tald hx hb hK hP o_13 hi18 d_Store_isHeldForOther_18 ?_
      have o_18 : okA g 3 0 (R (R a0 2) x4.toNatClampNeg) := ty_9 hT o_13 _
      refine lv_astore (lv' := [(5, .ref (R (R a0 2) x4.toNatClampNeg)), (0, .ref a0), (1, .ref a1), (2, .int x2), (3, .int x3), (4, .int x4)]) hx hb d_Store_isHeldForOther_19 hl (Nat.le_of_ble_eq_true rfl) rfl (fun ls hl => ?_)
      refine lv_iload hx hb d_Store_isHeldForOther_21 (lv_at hl 5 rfl) ?_
      refine lv_iload_n hx hb d_Store_isHeldForOther_23 rfl (lv_at hl 4 rfl) ?_
      refine lv_icmp_eq hx hb d_Store_isHeldForOther_24 rfl (fun hc => ?_) (fun hc => ?_)
      · replace h := i_pos hc h
        exact b_Store_isHeldForOther_57 cx ih _ _ _ _ _ _ _ _ o0 o1 h hP hS (lv_sub hl [1, 2, 3, 4, 5] rfl)
      · replace h := i_neg hc h
        refine lv_aload hx hb d_Store_isHeldForOther_27 (lv_at hl 0 rfl) ?_
        refine gg_get (C := R_Txn) (T := F_Txn) (N := 5) (ci := 3) hx hb hall i_Txn hown hK hP o_18.1 (wE_3 o_18.2) rfl 0 (by decide) (hall _ m_259) (fun _ h9 => h9) rfl d_Store_isHeldForOther_29 ?_
        have o_29 : okA g 7 8 (R (R (R a0 2) x4.toNatClampNeg) 0) := ty_Txn_0 hT o_18
        refine lv_iload_n hx hb d_Store_isHeldForOther_32 rfl (lv_at hl 3 rfl) ?_
        obtain ⟨hi33, h⟩ := chk_el h
        refine gg_zald hx hb hK hP o_29 hi33 d_Store_isHeldForOther_33 ?_
        refine lv_if_ne hx hb d_Store_isHeldForOther_34 rfl (fun hc => ?_) (fun hc => ?_)
        · replace h := i_neg hc h
          exact b_Store_isHeldForOther_46 cx ih _ _ _ _ _ _ _ _ o0 o1 h hP hS (lv_sub hl [1, 2, 3, 4, 5] rfl)
        · replace h := i_pos hc h
          refine lv_aload hx hb d_Store_isHeldForOther_37 (lv_at hl 0 rfl) ?_
          refine lv_iload_n hx hb d_Store_isHeldForOther_39 rfl (lv_at hl 3 rfl) ?_
          obtain ⟨v40, e40, h⟩ := ob_el h
          refine gg_Vi (As := [.int x2]) (rest := []) (ci := 3) (C := R_Txn) (T := F_Txn) (N := 5) ⟨hx, hb, hml, hown, hall⟩ (c_Txn_writes l hT o_18 e40) (cwV 1 hall (gV m_203 m_204 m_205 m_180 m_163) rfl rfl rfl (by decide +kernel) ⟨Nat.le_of_ble_eq_true rfl, Nat.le_of_ble_eq_true rfl⟩) hK hP hS o_18.1 (wE_3 o_18.2) rfl rfl hl.1 rfl (Nat.le_of_ble_eq_true rfl) d_Store_isHeldForOther_40 (fun H locs hP hS => ?_)
          refine lv_if_eq hx hb d_Store_isHeldForOther_43 rfl (fun hc => ?_) (fun hc => ?_)
          · replace h := i_pos hc h
            exact b_Store_isHeldForOther_57 cx ih _ _ _ _ _ _ _ _ o0 o1 h hP hS (lv_sub hl [1, 2, 3, 4, 5] rfl)
          · replace h := i_neg hc h
            exact b_Store_isHeldForOther_46 cx ih _ _ _ _ _ _ _ _ o0 o1 h hP hS (lv_sub hl [1, 2, 3, 4, 5] rfl)
def F_Store_isHeldForOther (R : Nat → Nat → Nat) (a0 : Nat) (a1 : Nat) (x2 : Int32) (x3 : Int32) (I : St) : Option Int32 := B_Store_isHeldForOther_3 R I 100 a0 a1 x2 x3 (0 : Int32)
set_option maxHeartbeats 4000000 in
set_option maxRecDepth 100000 in
theorem c_Store_isHeldForOther (l : Launch) {g : Sg} {R : Nat → Nat → Nat} (hT : Ty g R) {a0 : Nat} (o0 : okA g 4 0 a0) {a1 : Nat} (o1 : okA g 1 0 a1) {x2 : Int32} {x3 : Int32} {I : St} {v : Int32} (h : F_Store_isHeldForOther R a0 a1 x2 x3 I = some v) : Cti l g R y_Store_isHeldForOther w_Store_isHeldForOther 4 88 [.ref a0, .ref a1, .int x2, .int x3] I v I := by
  unfold Cti
  refine Met.ofW (cc := b_Store_isHeldForOther) (maxL := 6) (ret := (some .boolean)) (by decide) rfl ?_
  intro p e s m args below meth c s₁ B hml hv
  obtain ⟨rfl, hP, hK⟩ := hv
  have hts := atoms_spec (ws := w_Store_isHeldForOther) B.pre
  have hall : ∀ w ∈ w_all, w.before _ s = true := fun w hw => hts w (List.mem_cons_of_mem _ hw)
  have hown : s.vm.findClass R_Store = some m.cls := findClass_of_methodNamed B.named
  have hx := B.exec
  have hb := B.bytes
  have hr := B.returns
  have hlk := B.notSynchronized
  have cx : Cx p s m _ meth c g R R_Store b_Store_isHeldForOther 6 (some .boolean) := ⟨hx, hb, hml, hr, hlk, hown, hall, hT, hK⟩
  have hl := lv_entry ([.ref a0, .ref a1, .int x2, .int x3]) (n := 6) (Nat.le_of_ble_eq_true rfl)
  rw [lg_entry_eq]
  generalize (lg_sl ([.ref a0, .ref a1, .int x2, .int x3]) ++ List.replicate (6 - (lg_sl ([.ref a0, .ref a1, .int x2, .int x3])).length) Slot.unset).toArray = ls at hl ⊢
  have hl : lv_has ls 6 [(0, .ref a0), (1, .ref a1), (2, .int x2), (3, .int x3)] := hl
  have hS : va_S (· ∈ g.L) s.heap s.heap [] := va_S.rf
  unfold F_Store_isHeldForOther at h
  refine lv_iconst (v := 0) hx hb d_Store_isHeldForOther_0 (by decide) ?_
  refine lv_istore (lv' := [(4, .int (0 : Int32)), (0, .ref a0), (1, .ref a1), (2, .int x2), (3, .int x3)]) hx hb d_Store_isHeldForOther_1 hl (Nat.le_of_ble_eq_true rfl) rfl (fun ls hl => ?_)
  exact b_Store_isHeldForOther_3 cx 100 _ _ _ _ _ _ _ _ o0 o1 h hP hS (lv_sub hl [1, 2, 3, 4, 0] rfl)
end
