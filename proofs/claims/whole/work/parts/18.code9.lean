section
abbrev b_Store_holdsReadsAgainst : ByteArray := prog_1_method_37_code
def y_Store_holdsReadsAgainst : MethodName := ⟨"StampedStore", "holdsReadsAgainst", "(LStampedStore$Transaction;LStampedStore$Transaction;)Z"⟩
def w_Store_holdsReadsAgainst : List Cond := .code y_Store_holdsReadsAgainst b_Store_holdsReadsAgainst 4 (some .boolean) :: w_all
theorem d_Store_holdsReadsAgainst_0 : decode b_Store_holdsReadsAgainst 0 = .ok (.aload_n 1, 1) := by decide +kernel
theorem d_Store_holdsReadsAgainst_1 : decode b_Store_holdsReadsAgainst 1 = .ok (.aload_n 2, 1) := by decide +kernel
theorem d_Store_holdsReadsAgainst_2 : decode b_Store_holdsReadsAgainst 2 = .ok (.if_acmp .eq 10, 3) := by decide +kernel
theorem d_Store_holdsReadsAgainst_5 : decode b_Store_holdsReadsAgainst 5 = .ok (.aload_n 1, 1) := by decide +kernel
theorem d_Store_holdsReadsAgainst_6 : decode b_Store_holdsReadsAgainst 6 = .ok (.getfield 128, 3) := by decide +kernel
theorem d_Store_holdsReadsAgainst_9 : decode b_Store_holdsReadsAgainst 9 = .ok (.ifCond .eq 5, 3) := by decide +kernel
theorem d_Store_holdsReadsAgainst_12 : decode b_Store_holdsReadsAgainst 12 = .ok (.iconst 0, 1) := by decide +kernel
theorem d_Store_holdsReadsAgainst_13 : decode b_Store_holdsReadsAgainst 13 = .ok (.ireturn, 1) := by decide +kernel
theorem d_Store_holdsReadsAgainst_14 : decode b_Store_holdsReadsAgainst 14 = .ok (.iconst 0, 1) := by decide +kernel
theorem d_Store_holdsReadsAgainst_15 : decode b_Store_holdsReadsAgainst 15 = .ok (.istore_n 3, 1) := by decide +kernel
theorem d_Store_holdsReadsAgainst_16 : decode b_Store_holdsReadsAgainst 16 = .ok (.iload_n 3, 1) := by decide +kernel
theorem d_Store_holdsReadsAgainst_17 : decode b_Store_holdsReadsAgainst 17 = .ok (.bipush 8, 2) := by decide +kernel
theorem d_Store_holdsReadsAgainst_19 : decode b_Store_holdsReadsAgainst 19 = .ok (.if_icmp .ge 40, 3) := by decide +kernel
theorem d_Store_holdsReadsAgainst_22 : decode b_Store_holdsReadsAgainst 22 = .ok (.aload_n 2, 1) := by decide +kernel
theorem d_Store_holdsReadsAgainst_23 : decode b_Store_holdsReadsAgainst 23 = .ok (.iload_n 3, 1) := by decide +kernel
theorem d_Store_holdsReadsAgainst_24 : decode b_Store_holdsReadsAgainst 24 = .ok (.invokevirtual 131, 3) := by decide +kernel
theorem d_Store_holdsReadsAgainst_27 : decode b_Store_holdsReadsAgainst 27 = .ok (.ifCond .eq 26, 3) := by decide +kernel
theorem d_Store_holdsReadsAgainst_30 : decode b_Store_holdsReadsAgainst 30 = .ok (.aload_n 1, 1) := by decide +kernel
theorem d_Store_holdsReadsAgainst_31 : decode b_Store_holdsReadsAgainst 31 = .ok (.getfield 236, 3) := by decide +kernel
theorem d_Store_holdsReadsAgainst_34 : decode b_Store_holdsReadsAgainst 34 = .ok (.iload_n 3, 1) := by decide +kernel
theorem d_Store_holdsReadsAgainst_35 : decode b_Store_holdsReadsAgainst 35 = .ok (.baload, 1) := by decide +kernel
theorem d_Store_holdsReadsAgainst_36 : decode b_Store_holdsReadsAgainst 36 = .ok (.ifCond .eq 17, 3) := by decide +kernel
theorem d_Store_holdsReadsAgainst_39 : decode b_Store_holdsReadsAgainst 39 = .ok (.aload_n 0, 1) := by decide +kernel
theorem d_Store_holdsReadsAgainst_40 : decode b_Store_holdsReadsAgainst 40 = .ok (.aload_n 1, 1) := by decide +kernel
theorem d_Store_holdsReadsAgainst_41 : decode b_Store_holdsReadsAgainst 41 = .ok (.iload_n 3, 1) := by decide +kernel
theorem d_Store_holdsReadsAgainst_42 : decode b_Store_holdsReadsAgainst 42 = .ok (.invokestatic 138, 3) := by decide +kernel
theorem d_Store_holdsReadsAgainst_45 : decode b_Store_holdsReadsAgainst 45 = .ok (.invokevirtual 230, 3) := by decide +kernel
theorem d_Store_holdsReadsAgainst_48 : decode b_Store_holdsReadsAgainst 48 = .ok (.ifCond .eq 5, 3) := by decide +kernel
theorem d_Store_holdsReadsAgainst_51 : decode b_Store_holdsReadsAgainst 51 = .ok (.iconst 1, 1) := by decide +kernel
theorem d_Store_holdsReadsAgainst_52 : decode b_Store_holdsReadsAgainst 52 = .ok (.ireturn, 1) := by decide +kernel
theorem d_Store_holdsReadsAgainst_53 : decode b_Store_holdsReadsAgainst 53 = .ok (.iinc 3 1, 3) := by decide +kernel
theorem d_Store_holdsReadsAgainst_56 : decode b_Store_holdsReadsAgainst 56 = .ok (.goto (-40), 3) := by decide +kernel
theorem d_Store_holdsReadsAgainst_59 : decode b_Store_holdsReadsAgainst 59 = .ok (.iconst 0, 1) := by decide +kernel
theorem d_Store_holdsReadsAgainst_60 : decode b_Store_holdsReadsAgainst 60 = .ok (.ireturn, 1) := by decide +kernel
def B_Store_holdsReadsAgainst_12 (R : Nat → Nat → Nat) (I : St) : Option Int32 := some (0 : Int32)
set_option maxHeartbeats 4000000 in
set_option maxRecDepth 100000 in
theorem b_Store_holdsReadsAgainst_12 {p : Program} {l : Launch} {e : Env} {s : State} {m : MethodId} {args : Array Value} {below : List Frame} {meth : Method} {c : Code} {g : Sg} {R : Nat → Nat → Nat} {I : St} {v : Int32} (cx : Cx p s m args meth c g R R_Store b_Store_holdsReadsAgainst 4 (some .boolean)) : ∀ (H : Heap) (locs : List Loc) (ls : Array Slot), B_Store_holdsReadsAgainst_12 R I = some v → wW g R I H → va_S (· ∈ g.L) s.heap H locs → lv_has ls 4 [] → W p l e { frames := 4, cells := 0, slots := 0, locals := 86 } s m args below meth c H locs 0 0 (MQ below (Qi g R v I) args s 0 0 (· ∈ g.L)) (F0 m 12 ls []) := by
  have ⟨hx, hb, hml, hr, hlk, hown, hall, hT, hK⟩ := cx
  intro H locs ls h hP hS hl
  unfold B_Store_holdsReadsAgainst_12 at h
  refine lv_iconst (v := 0) hx hb d_Store_holdsReadsAgainst_12 (by decide) ?_
  obtain rfl := Option.some.inj h
  exact gg_zret hx hb hr hlk rfl hK hP hS d_Store_holdsReadsAgainst_13
def B_Store_holdsReadsAgainst_53 (R : Nat → Nat → Nat) (I : St) (k16 : Nat → Nat → Nat → Int32 → Option Int32) (a0 : Nat) (a1 : Nat) (a2 : Nat) (x3 : Int32) : Option Int32 := k16 a0 a1 a2 (x3 + 1)
set_option maxHeartbeats 4000000 in
set_option maxRecDepth 100000 in
theorem b_Store_holdsReadsAgainst_53 {p : Program} {l : Launch} {e : Env} {s : State} {m : MethodId} {args : Array Value} {below : List Frame} {meth : Method} {c : Code} {g : Sg} {R : Nat → Nat → Nat} {I : St} {v : Int32} (cx : Cx p s m args meth c g R R_Store b_Store_holdsReadsAgainst 4 (some .boolean)) {k16 : Nat → Nat → Nat → Int32 → Option Int32} (hk16 : ∀ (a0 : Nat) (a1 : Nat) (a2 : Nat) (x3 : Int32) (H : Heap) (locs : List Loc) (ls : Array Slot), okA g 4 0 a0 → okA g 3 0 a1 → okA g 3 0 a2 → k16 a0 a1 a2 x3 = some v → wW g R I H → va_S (· ∈ g.L) s.heap H locs → lv_has ls 4 [(0, .ref a0), (1, .ref a1), (2, .ref a2), (3, .int x3)] → W p l e { frames := 4, cells := 0, slots := 0, locals := 86 } s m args below meth c H locs 0 0 (MQ below (Qi g R v I) args s 0 0 (· ∈ g.L)) (F0 m 16 ls [])) : ∀ (a0 : Nat) (a1 : Nat) (a2 : Nat) (x3 : Int32) (H : Heap) (locs : List Loc) (ls : Array Slot), okA g 4 0 a0 → okA g 3 0 a1 → okA g 3 0 a2 → B_Store_holdsReadsAgainst_53 R I k16 a0 a1 a2 x3 = some v → wW g R I H → va_S (· ∈ g.L) s.heap H locs → lv_has ls 4 [(0, .ref a0), (1, .ref a1), (2, .ref a2), (3, .int x3)] → W p l e { frames := 4, cells := 0, slots := 0, locals := 86 } s m args below meth c H locs 0 0 (MQ below (Qi g R v I) args s 0 0 (· ∈ g.L)) (F0 m 53 ls []) := by
  have ⟨hx, hb, hml, hr, hlk, hown, hall, hT, hK⟩ := cx
  intro a0 a1 a2 x3 H locs ls o0 o1 o2 h hP hS hl
  unfold B_Store_holdsReadsAgainst_53 at h
  refine lv_iinc (k := 3) (v := (x3 + 1)) (lv' := [(3, .int (x3 + 1)), (0, .ref a0), (1, .ref a1), (2, .ref a2)]) hx hb d_Store_holdsReadsAgainst_53 hl rfl (by rw [show Int32.ofInt 1 = (1 : Int32) from by decide]) (Nat.le_of_ble_eq_true rfl) rfl (fun ls hl => ?_)
  refine lv_goto hx hb d_Store_holdsReadsAgainst_56 rfl ?_
  exact hk16 _ _ _ _ _ _ _ o0 o1 o2 h hP hS (lv_sub hl [1, 2, 3, 0] rfl)
def B_Store_holdsReadsAgainst_16 (R : Nat → Nat → Nat) (I : St) : Nat → Nat → Nat → Nat → Int32 → Option Int32
  | 0, _, _, _, _ => none
  | f + 1, a0, a1, a2, x3 => (if (8 : Int32) ≤ x3 then some (0 : Int32) else (ob (F_Txn_writes R a2 x3 I) (fun v24 => (if v24 = 0 then B_Store_holdsReadsAgainst_53 R I (B_Store_holdsReadsAgainst_16 R I f) a0 a1 a2 x3 else (chk x3 8 ((if (I (R a1 0) x3.toNatClampNeg) = 0 then B_Store_holdsReadsAgainst_53 R I (B_Store_holdsReadsAgainst_16 R I f) a0 a1 a2 x3 else (ob (F_Store_groupOfKey R x3 I) (fun v42 => (ob (F_Store_holdsReads R a0 a1 v42 I) (fun v45 => (if v45 = 0 then B_Store_holdsReadsAgainst_53 R I (B_Store_holdsReadsAgainst_16 R I f) a0 a1 a2 x3 else some (1 : Int32)))))))))))))
set_option maxHeartbeats 4000000 in
set_option maxRecDepth 100000 in
theorem b_Store_holdsReadsAgainst_16 {p : Program} {l : Launch} {e : Env} {s : State} {m : MethodId} {args : Array Value} {below : List Frame} {meth : Method} {c : Code} {g : Sg} {R : Nat → Nat → Nat} {I : St} {v : Int32} (cx : Cx p s m args meth c g R R_Store b_Store_holdsReadsAgainst 4 (some .boolean)) (f : Nat) : ∀ (a0 : Nat) (a1 : Nat) (a2 : Nat) (x3 : Int32) (H : Heap) (locs : List Loc) (ls : Array Slot), okA g 4 0 a0 → okA g 3 0 a1 → okA g 3 0 a2 → B_Store_holdsReadsAgainst_16 R I f a0 a1 a2 x3 = some v → wW g R I H → va_S (· ∈ g.L) s.heap H locs → lv_has ls 4 [(0, .ref a0), (1, .ref a1), (2, .ref a2), (3, .int x3)] → W p l e { frames := 4, cells := 0, slots := 0, locals := 86 } s m args below meth c H locs 0 0 (MQ below (Qi g R v I) args s 0 0 (· ∈ g.L)) (F0 m 16 ls []) := by
  have ⟨hx, hb, hml, hr, hlk, hown, hall, hT, hK⟩ := cx
  induction f with
  | zero => intro a0 a1 a2 x3 H locs ls o0 o1 o2 h; unfold B_Store_holdsReadsAgainst_16 at h; cases h
  | succ f ih =>
    intro a0 a1 a2 x3 H locs ls o0 o1 o2 h hP hS hl
    unfold B_Store_holdsReadsAgainst_16 at h
    refine lv_iload_n hx hb d_Store_holdsReadsAgainst_16 rfl (lv_at hl 3 rfl) ?_
    refine lv_bipush (v := 8) hx hb d_Store_holdsReadsAgainst_17 (by decide) ?_
    refine lv_icmp_ge hx hb d_Store_holdsReadsAgainst_19 rfl (fun hc => ?_) (fun hc => ?_)
    · replace h := i_pos hc h
      refine lv_iconst (v := 0) hx hb d_Store_holdsReadsAgainst_59 (by decide) ?_
      obtain rfl := Option.some.inj h
      exact gg_zret hx hb hr hlk rfl hK hP hS d_Store_holdsReadsAgainst_60
    · replace h := i_neg hc h
      refine lv_aload_n hx hb d_Store_holdsReadsAgainst_22 rfl (lv_at hl 2 rfl) ?_
      refine lv_iload_n hx hb d_Store_holdsReadsAgainst_23 rfl (lv_at hl 3 rfl) ?_
      obtain ⟨v24, e24, h⟩ := ob_el h
      refine gg_Vi (As := [.int x3]) (rest := []) (ci := 3) (C := R_Txn) (T := F_Txn) (N := 5) ⟨hx, hb, hml, hown, hall⟩ (c_Txn_writes l hT o2 e24) (cwV 1 hall (gV m_203 m_204 m_205 m_180 m_163) rfl rfl rfl (by decide +kernel) ⟨Nat.le_of_ble_eq_true rfl, Nat.le_of_ble_eq_true rfl⟩) hK hP hS o2.1 (wE_3 o2.2) rfl rfl hl.1 rfl (Nat.le_of_ble_eq_true rfl) d_Store_holdsReadsAgainst_24 (fun H locs hP hS => ?_)
      refine lv_if_eq hx hb d_Store_holdsReadsAgainst_27 rfl (fun hc => ?_) (fun hc => ?_)
      · replace h := i_pos hc h
        exact b_Store_holdsReadsAgainst_53 cx ih _ _ _ _ _ _ _ o0 o1 o2 h hP hS (lv_sub hl [0, 1, 2, 3] rfl)
      · replace h := i_neg hc h
        refine lv_aload_n hx hb d_Store_holdsReadsAgainst_30 rfl (lv_at hl 1 rfl) ?_
        refine gg_get (C := R_Txn) (T := F_Txn) (N := 5) (ci := 3) hx hb hall i_Txn hown hK hP o1.1 (wE_3 o1.2) rfl 0 (by decide) (hall _ m_259) (fun _ h9 => h9) rfl d_Store_holdsReadsAgainst_31 ?_
        have o_31 : okA g 7 8 (R a1 0) := ty_Txn_0 hT o1
        refine lv_iload_n hx hb d_Store_holdsReadsAgainst_34 rfl (lv_at hl 3 rfl) ?_
        obtain ⟨hi35, h⟩ := chk_el h
        refine gg_zald hx hb hK hP o_31 hi35 d_Store_holdsReadsAgainst_35 ?_
        refine lv_if_eq hx hb d_Store_holdsReadsAgainst_36 rfl (fun hc => ?_) (fun hc => ?_)
        · replace h := i_pos hc h
          exact b_Store_holdsReadsAgainst_53 cx ih _ _ _ _ _ _ _ o0 o1 o2 h hP hS (lv_sub hl [0, 1, 2, 3] rfl)
        · replace h := i_neg hc h
          refine lv_aload_n hx hb d_Store_holdsReadsAgainst_39 rfl (lv_at hl 0 rfl) ?_
          refine lv_aload_n hx hb d_Store_holdsReadsAgainst_40 rfl (lv_at hl 1 rfl) ?_
          refine lv_iload_n hx hb d_Store_holdsReadsAgainst_41 rfl (lv_at hl 3 rfl) ?_
          obtain ⟨v42, e42, h⟩ := ob_el h
          refine gg_Si (As := [.int x3]) (rest := [.ref a1, .ref a0]) ⟨hx, hb, hml, hown, hall⟩ (c_Store_groupOfKey l hT e42) (cwS 1 hall (gS m_230 m_211 m_6 m_164) rfl rfl rfl (by decide +kernel) ⟨Nat.le_of_ble_eq_true rfl, Nat.le_of_ble_eq_true rfl⟩) hK hP hS rfl hl.1 rfl (Nat.le_of_ble_eq_true rfl) d_Store_holdsReadsAgainst_42 (fun H locs hP hS => ?_)
          obtain ⟨v45, e45, h⟩ := ob_el h
          refine gg_Vi (As := [.ref a1, .int v42]) (rest := []) (ci := 4) (C := R_Store) (T := F_Store) (N := 4) ⟨hx, hb, hml, hown, hall⟩ (c_Store_holdsReads l hT o0 o1 e45) (cwV 2 hall (gV m_181 m_182 m_183 m_6 m_176) rfl rfl rfl (by decide +kernel) ⟨Nat.le_of_ble_eq_true rfl, Nat.le_of_ble_eq_true rfl⟩) hK hP hS o0.1 (wE_4 o0.2) rfl rfl hl.1 rfl (Nat.le_of_ble_eq_true rfl) d_Store_holdsReadsAgainst_45 (fun H locs hP hS => ?_)
          refine lv_if_eq hx hb d_Store_holdsReadsAgainst_48 rfl (fun hc => ?_) (fun hc => ?_)
          · replace h := i_pos hc h
            exact b_Store_holdsReadsAgainst_53 cx ih _ _ _ _ _ _ _ o0 o1 o2 h hP hS (lv_sub hl [0, 1, 2, 3] rfl)
          · replace h := i_neg hc h
            refine lv_iconst (v := 1) hx hb d_Store_holdsReadsAgainst_51 (by decide) ?_
            obtain rfl := Option.some.inj h
            exact gg_zret hx hb hr hlk rfl hK hP hS d_Store_holdsReadsAgainst_52
def F_Store_holdsReadsAgainst (R : Nat → Nat → Nat) (a0 : Nat) (a1 : Nat) (a2 : Nat) (I : St) : Option Int32 := (if some a1 = some a2 then B_Store_holdsReadsAgainst_12 R I else (if (I a1 3) = 0 then B_Store_holdsReadsAgainst_16 R I 100 a0 a1 a2 (0 : Int32) else B_Store_holdsReadsAgainst_12 R I))
set_option maxHeartbeats 4000000 in
set_option maxRecDepth 100000 in
theorem c_Store_holdsReadsAgainst (l : Launch) {g : Sg} {R : Nat → Nat → Nat} (hT : Ty g R) {a0 : Nat} (o0 : okA g 4 0 a0) {a1 : Nat} (o1 : okA g 3 0 a1) {a2 : Nat} (o2 : okA g 3 0 a2) {I : St} {v : Int32} (h : F_Store_holdsReadsAgainst R a0 a1 a2 I = some v) : Cti l g R y_Store_holdsReadsAgainst w_Store_holdsReadsAgainst 4 86 [.ref a0, .ref a1, .ref a2] I v I := by
  unfold Cti
  refine Met.ofW (cc := b_Store_holdsReadsAgainst) (maxL := 4) (ret := (some .boolean)) (by decide) rfl ?_
  intro p e s m args below meth c s₁ B hml hv
  obtain ⟨rfl, hP, hK⟩ := hv
  have hts := atoms_spec (ws := w_Store_holdsReadsAgainst) B.pre
  have hall : ∀ w ∈ w_all, w.before _ s = true := fun w hw => hts w (List.mem_cons_of_mem _ hw)
  have hown : s.vm.findClass R_Store = some m.cls := findClass_of_methodNamed B.named
  have hx := B.exec
  have hb := B.bytes
  have hr := B.returns
  have hlk := B.notSynchronized
  have cx : Cx p s m _ meth c g R R_Store b_Store_holdsReadsAgainst 4 (some .boolean) := ⟨hx, hb, hml, hr, hlk, hown, hall, hT, hK⟩
  have hl := lv_entry ([.ref a0, .ref a1, .ref a2]) (n := 4) (Nat.le_of_ble_eq_true rfl)
  rw [lg_entry_eq]
  generalize (lg_sl ([.ref a0, .ref a1, .ref a2]) ++ List.replicate (4 - (lg_sl ([.ref a0, .ref a1, .ref a2])).length) Slot.unset).toArray = ls at hl ⊢
  have hl : lv_has ls 4 [(0, .ref a0), (1, .ref a1), (2, .ref a2)] := hl
  have hS : va_S (· ∈ g.L) s.heap s.heap [] := va_S.rf
  unfold F_Store_holdsReadsAgainst at h
  refine lv_aload_n hx hb d_Store_holdsReadsAgainst_0 rfl (lv_at hl 1 rfl) ?_
  refine lv_aload_n hx hb d_Store_holdsReadsAgainst_1 rfl (lv_at hl 2 rfl) ?_
  refine lv_acmp_eq (rx := some a1) (ry := some a2) hx hb d_Store_holdsReadsAgainst_2 rfl (fun hc => ?_) (fun hc => ?_)
  · replace h := i_pos hc h
    exact b_Store_holdsReadsAgainst_12 cx _ _ _ h hP hS (lv_sub hl [] rfl)
  · replace h := i_neg hc h
    refine lv_aload_n hx hb d_Store_holdsReadsAgainst_5 rfl (lv_at hl 1 rfl) ?_
    refine gg_get (C := R_Txn) (T := F_Txn) (N := 5) (ci := 3) hx hb hall i_Txn hown hK hP o1.1 (wE_3 o1.2) rfl 3 (by decide) (hall _ m_229) (fun _ h9 => h9) rfl d_Store_holdsReadsAgainst_6 ?_
    refine lv_if_eq hx hb d_Store_holdsReadsAgainst_9 rfl (fun hc => ?_) (fun hc => ?_)
    · replace h := i_pos hc h
      refine lv_iconst (v := 0) hx hb d_Store_holdsReadsAgainst_14 (by decide) ?_
      refine lv_istore_n (lv' := [(3, .int (0 : Int32)), (0, .ref a0), (1, .ref a1), (2, .ref a2)]) hx hb d_Store_holdsReadsAgainst_15 rfl hl (Nat.le_of_ble_eq_true rfl) rfl (fun ls hl => ?_)
      exact b_Store_holdsReadsAgainst_16 cx 100 _ _ _ _ _ _ _ o0 o1 o2 h hP hS (lv_sub hl [1, 2, 3, 0] rfl)
    · replace h := i_neg hc h
      exact b_Store_holdsReadsAgainst_12 cx _ _ _ h hP hS (lv_sub hl [] rfl)
abbrev b_Store_mustWait : ByteArray := prog_1_method_40_code
def y_Store_mustWait : MethodName := ⟨"StampedStore", "mustWait", "(I)Z"⟩
def w_Store_mustWait : List Cond := .code y_Store_mustWait b_Store_mustWait 5 (some .boolean) :: w_all
theorem d_Store_mustWait_0 : decode b_Store_mustWait 0 = .ok (.aload_n 0, 1) := by decide +kernel
theorem d_Store_mustWait_1 : decode b_Store_mustWait 1 = .ok (.getfield 17, 3) := by decide +kernel
theorem d_Store_mustWait_4 : decode b_Store_mustWait 4 = .ok (.iload_n 1, 1) := by decide +kernel
theorem d_Store_mustWait_5 : decode b_Store_mustWait 5 = .ok (.aaload, 1) := by decide +kernel
theorem d_Store_mustWait_6 : decode b_Store_mustWait 6 = .ok (.astore_n 2, 1) := by decide +kernel
theorem d_Store_mustWait_7 : decode b_Store_mustWait 7 = .ok (.iconst 0, 1) := by decide +kernel
theorem d_Store_mustWait_8 : decode b_Store_mustWait 8 = .ok (.istore_n 3, 1) := by decide +kernel
theorem d_Store_mustWait_9 : decode b_Store_mustWait 9 = .ok (.iload_n 3, 1) := by decide +kernel
theorem d_Store_mustWait_10 : decode b_Store_mustWait 10 = .ok (.bipush 8, 2) := by decide +kernel
theorem d_Store_mustWait_12 : decode b_Store_mustWait 12 = .ok (.if_icmp .ge 54, 3) := by decide +kernel
theorem d_Store_mustWait_15 : decode b_Store_mustWait 15 = .ok (.aload_n 0, 1) := by decide +kernel
theorem d_Store_mustWait_16 : decode b_Store_mustWait 16 = .ok (.iload_n 3, 1) := by decide +kernel
theorem d_Store_mustWait_17 : decode b_Store_mustWait 17 = .ok (.invokestatic 138, 3) := by decide +kernel
theorem d_Store_mustWait_20 : decode b_Store_mustWait 20 = .ok (.invokevirtual 141, 3) := by decide +kernel
theorem d_Store_mustWait_23 : decode b_Store_mustWait 23 = .ok (.istore 4, 2) := by decide +kernel
theorem d_Store_mustWait_25 : decode b_Store_mustWait 25 = .ok (.aload_n 2, 1) := by decide +kernel
theorem d_Store_mustWait_26 : decode b_Store_mustWait 26 = .ok (.iload_n 3, 1) := by decide +kernel
theorem d_Store_mustWait_27 : decode b_Store_mustWait 27 = .ok (.invokevirtual 131, 3) := by decide +kernel
theorem d_Store_mustWait_30 : decode b_Store_mustWait 30 = .ok (.ifCond .eq 30, 3) := by decide +kernel
theorem d_Store_mustWait_33 : decode b_Store_mustWait 33 = .ok (.iload 4, 2) := by decide +kernel
theorem d_Store_mustWait_35 : decode b_Store_mustWait 35 = .ok (.iconst (-1), 1) := by decide +kernel
theorem d_Store_mustWait_36 : decode b_Store_mustWait 36 = .ok (.if_icmp .eq 24, 3) := by decide +kernel
theorem d_Store_mustWait_39 : decode b_Store_mustWait 39 = .ok (.aload_n 0, 1) := by decide +kernel
theorem d_Store_mustWait_40 : decode b_Store_mustWait 40 = .ok (.aload_n 0, 1) := by decide +kernel
theorem d_Store_mustWait_41 : decode b_Store_mustWait 41 = .ok (.getfield 11, 3) := by decide +kernel
theorem d_Store_mustWait_44 : decode b_Store_mustWait 44 = .ok (.iload 4, 2) := by decide +kernel
theorem d_Store_mustWait_46 : decode b_Store_mustWait 46 = .ok (.aaload, 1) := by decide +kernel
theorem d_Store_mustWait_47 : decode b_Store_mustWait 47 = .ok (.getfield 97, 3) := by decide +kernel
theorem d_Store_mustWait_50 : decode b_Store_mustWait 50 = .ok (.iload_n 3, 1) := by decide +kernel
theorem d_Store_mustWait_51 : decode b_Store_mustWait 51 = .ok (.iload_n 1, 1) := by decide +kernel
theorem d_Store_mustWait_52 : decode b_Store_mustWait 52 = .ok (.invokevirtual 249, 3) := by decide +kernel
theorem d_Store_mustWait_55 : decode b_Store_mustWait 55 = .ok (.ifCond .eq 5, 3) := by decide +kernel
theorem d_Store_mustWait_58 : decode b_Store_mustWait 58 = .ok (.iconst 1, 1) := by decide +kernel
theorem d_Store_mustWait_59 : decode b_Store_mustWait 59 = .ok (.ireturn, 1) := by decide +kernel
theorem d_Store_mustWait_60 : decode b_Store_mustWait 60 = .ok (.iinc 3 1, 3) := by decide +kernel
theorem d_Store_mustWait_63 : decode b_Store_mustWait 63 = .ok (.goto (-54), 3) := by decide +kernel
theorem d_Store_mustWait_66 : decode b_Store_mustWait 66 = .ok (.iconst 0, 1) := by decide +kernel
theorem d_Store_mustWait_67 : decode b_Store_mustWait 67 = .ok (.istore_n 3, 1) := by decide +kernel
theorem d_Store_mustWait_68 : decode b_Store_mustWait 68 = .ok (.iload_n 3, 1) := by decide +kernel
theorem d_Store_mustWait_69 : decode b_Store_mustWait 69 = .ok (.iload_n 1, 1) := by decide +kernel
theorem d_Store_mustWait_70 : decode b_Store_mustWait 70 = .ok (.if_icmp .ge 25, 3) := by decide +kernel
theorem d_Store_mustWait_73 : decode b_Store_mustWait 73 = .ok (.aload_n 0, 1) := by decide +kernel
theorem d_Store_mustWait_74 : decode b_Store_mustWait 74 = .ok (.aload_n 0, 1) := by decide +kernel
theorem d_Store_mustWait_75 : decode b_Store_mustWait 75 = .ok (.getfield 17, 3) := by decide +kernel
theorem d_Store_mustWait_78 : decode b_Store_mustWait 78 = .ok (.iload_n 3, 1) := by decide +kernel
theorem d_Store_mustWait_79 : decode b_Store_mustWait 79 = .ok (.aaload, 1) := by decide +kernel
theorem d_Store_mustWait_80 : decode b_Store_mustWait 80 = .ok (.aload_n 2, 1) := by decide +kernel
theorem d_Store_mustWait_81 : decode b_Store_mustWait 81 = .ok (.invokevirtual 253, 3) := by decide +kernel
theorem d_Store_mustWait_84 : decode b_Store_mustWait 84 = .ok (.ifCond .eq 5, 3) := by decide +kernel
theorem d_Store_mustWait_87 : decode b_Store_mustWait 87 = .ok (.iconst 1, 1) := by decide +kernel
theorem d_Store_mustWait_88 : decode b_Store_mustWait 88 = .ok (.ireturn, 1) := by decide +kernel
theorem d_Store_mustWait_89 : decode b_Store_mustWait 89 = .ok (.iinc 3 1, 3) := by decide +kernel
theorem d_Store_mustWait_92 : decode b_Store_mustWait 92 = .ok (.goto (-24), 3) := by decide +kernel
theorem d_Store_mustWait_95 : decode b_Store_mustWait 95 = .ok (.iconst 0, 1) := by decide +kernel
theorem d_Store_mustWait_96 : decode b_Store_mustWait 96 = .ok (.ireturn, 1) := by decide +kernel
def B_Store_mustWait_60 (R : Nat → Nat → Nat) (I : St) (k9 : Nat → Int32 → Nat → Int32 → Option Int32) (a0 : Nat) (x1 : Int32) (a2 : Nat) (x3 : Int32) : Option Int32 := k9 a0 x1 a2 (x3 + 1)
set_option maxHeartbeats 4000000 in
set_option maxRecDepth 100000 in
theorem b_Store_mustWait_60 {p : Program} {l : Launch} {e : Env} {s : State} {m : MethodId} {args : Array Value} {below : List Frame} {meth : Method} {c : Code} {g : Sg} {R : Nat → Nat → Nat} {I : St} {v : Int32} (cx : Cx p s m args meth c g R R_Store b_Store_mustWait 5 (some .boolean)) {k9 : Nat → Int32 → Nat → Int32 → Option Int32} (hk9 : ∀ (a0 : Nat) (x1 : Int32) (a2 : Nat) (x3 : Int32) (H : Heap) (locs : List Loc) (ls : Array Slot), okA g 4 0 a0 → okA g 3 0 a2 → k9 a0 x1 a2 x3 = some v → wW g R I H → va_S (· ∈ g.L) s.heap H locs → lv_has ls 5 [(0, .ref a0), (1, .int x1), (2, .ref a2), (3, .int x3)] → W p l e { frames := 5, cells := 0, slots := 0, locals := 113 } s m args below meth c H locs 0 0 (MQ below (Qi g R v I) args s 0 0 (· ∈ g.L)) (F0 m 9 ls [])) : ∀ (a0 : Nat) (x1 : Int32) (a2 : Nat) (x3 : Int32) (H : Heap) (locs : List Loc) (ls : Array Slot), okA g 4 0 a0 → okA g 3 0 a2 → B_Store_mustWait_60 R I k9 a0 x1 a2 x3 = some v → wW g R I H → va_S (· ∈ g.L) s.heap H locs → lv_has ls 5 [(0, .ref a0), (1, .int x1), (2, .ref a2), (3, .int x3)] → W p l e { frames := 5, cells := 0, slots := 0, locals := 113 } s m args below meth c H locs 0 0 (MQ below (Qi g R v I) args s 0 0 (· ∈ g.L)) (F0 m 60 ls []) := by
  have ⟨hx, hb, hml, hr, hlk, hown, hall, hT, hK⟩ := cx
  intro a0 x1 a2 x3 H locs ls o0 o2 h hP hS hl
  unfold B_Store_mustWait_60 at h
  refine lv_iinc (k := 3) (v := (x3 + 1)) (lv' := [(3, .int (x3 + 1)), (0, .ref a0), (1, .int x1), (2, .ref a2)]) hx hb d_Store_mustWait_60 hl rfl (by rw [show Int32.ofInt 1 = (1 : Int32) from by decide]) (Nat.le_of_ble_eq_true rfl) rfl (fun ls hl => ?_)
  refine lv_goto hx hb d_Store_mustWait_63 rfl ?_
  exact hk9 _ _ _ _ _ _ _ o0 o2 h hP hS (lv_sub hl [1, 2, 3, 0] rfl)
def B_Store_mustWait_68 (R : Nat → Nat → Nat) (I : St) : Nat → Nat → Int32 → Nat → Int32 → Option Int32
  | 0, _, _, _, _ => none
  | f + 1, a0, x1, a2, x3 => (if x1 ≤ x3 then some (0 : Int32) else (chk x3 16 ((ob (F_Store_holdsReadsAgainst R a0 (R (R a0 2) x3.toNatClampNeg) a2 I) (fun v81 => (if v81 = 0 then B_Store_mustWait_68 R I f a0 x1 a2 (x3 + 1) else some (1 : Int32)))))))
set_option maxHeartbeats 4000000 in
set_option maxRecDepth 100000 in
theorem b_Store_mustWait_68 {p : Program} {l : Launch} {e : Env} {s : State} {m : MethodId} {args : Array Value} {below : List Frame} {meth : Method} {c : Code} {g : Sg} {R : Nat → Nat → Nat} {I : St} {v : Int32} (cx : Cx p s m args meth c g R R_Store b_Store_mustWait 5 (some .boolean)) (f : Nat) : ∀ (a0 : Nat) (x1 : Int32) (a2 : Nat) (x3 : Int32) (H : Heap) (locs : List Loc) (ls : Array Slot), okA g 4 0 a0 → okA g 3 0 a2 → B_Store_mustWait_68 R I f a0 x1 a2 x3 = some v → wW g R I H → va_S (· ∈ g.L) s.heap H locs → lv_has ls 5 [(0, .ref a0), (1, .int x1), (2, .ref a2), (3, .int x3)] → W p l e { frames := 5, cells := 0, slots := 0, locals := 113 } s m args below meth c H locs 0 0 (MQ below (Qi g R v I) args s 0 0 (· ∈ g.L)) (F0 m 68 ls []) := by
  have ⟨hx, hb, hml, hr, hlk, hown, hall, hT, hK⟩ := cx
  induction f with
  | zero => intro a0 x1 a2 x3 H locs ls o0 o2 h; unfold B_Store_mustWait_68 at h; cases h
  | succ f ih =>
    intro a0 x1 a2 x3 H locs ls o0 o2 h hP hS hl
    unfold B_Store_mustWait_68 at h
    refine lv_iload_n hx hb d_Store_mustWait_68 rfl (lv_at hl 3 rfl) ?_
    refine lv_iload_n hx hb d_Store_mustWait_69 rfl (lv_at hl 1 rfl) ?_
    refine lv_icmp_ge hx hb d_Store_mustWait_70 rfl (fun hc => ?_) (fun hc => ?_)
    · replace h := i_pos hc h
      refine lv_iconst (v := 0) hx hb d_Store_mustWait_95 (by decide) ?_
      obtain rfl := Option.some.inj h
      exact gg_zret hx hb hr hlk rfl hK hP hS d_Store_mustWait_96
    · replace h := i_neg hc h
      refine lv_aload_n hx hb d_Store_mustWait_73 rfl (lv_at hl 0 rfl) ?_
      refine lv_aload_n hx hb d_Store_mustWait_74 rfl (lv_at hl 0 rfl) ?_
      refine gg_get (C := R_Store) (T := F_Store) (N := 4) (ci := 4) hx hb hall i_Store hown hK hP o0.1 (wE_4 o0.2) rfl 2 (by decide) (hall _ m_202) (fun _ h9 => h9) rfl d_Store_mustWait_75 ?_
      have o_75 : okA g 9 16 (R a0 2) := ty_Store_2 hT o0
      refine lv_iload_n hx hb d_Store_mustWait_78 rfl (lv_at hl 3 rfl) ?_
      obtain ⟨hi79, h⟩ := chk_el h
      refine gg_tald hx hb hK hP o_75 hi79 d_Store_mustWait_79 ?_
      have o_79 : okA g 3 0 (R (R a0 2) x3.toNatClampNeg) := ty_9 hT o_75 _
      refine lv_aload_n hx hb d_Store_mustWait_80 rfl (lv_at hl 2 rfl) ?_
      obtain ⟨v81, e81, h⟩ := ob_el h
      refine gg_Vi (As := [.ref (R (R a0 2) x3.toNatClampNeg), .ref a2]) (rest := []) (ci := 4) (C := R_Store) (T := F_Store) (N := 4) ⟨hx, hb, hml, hown, hall⟩ (c_Store_holdsReadsAgainst l hT o0 o_79 o2 e81) (cwV 2 hall (gV m_262 m_263 m_264 m_6 m_261) rfl rfl rfl (by decide +kernel) ⟨Nat.le_of_ble_eq_true rfl, Nat.le_of_ble_eq_true rfl⟩) hK hP hS o0.1 (wE_4 o0.2) rfl rfl hl.1 rfl (Nat.le_of_ble_eq_true rfl) d_Store_mustWait_81 (fun H locs hP hS => ?_)
      refine lv_if_eq hx hb d_Store_mustWait_84 rfl (fun hc => ?_) (fun hc => ?_)
      · replace h := i_pos hc h
        refine lv_iinc (k := 3) (v := (x3 + 1)) (lv' := [(3, .int (x3 + 1)), (0, .ref a0), (1, .int x1), (2, .ref a2)]) hx hb d_Store_mustWait_89 hl rfl (by rw [show Int32.ofInt 1 = (1 : Int32) from by decide]) (Nat.le_of_ble_eq_true rfl) rfl (fun ls hl => ?_)
        refine lv_goto hx hb d_Store_mustWait_92 rfl ?_
        exact ih _ _ _ _ _ _ _ o0 o2 h hP hS (lv_sub hl [1, 2, 3, 0] rfl)
      · replace h := i_neg hc h
        refine lv_iconst (v := 1) hx hb d_Store_mustWait_87 (by decide) ?_
        obtain rfl := Option.some.inj h
        exact gg_zret hx hb hr hlk rfl hK hP hS d_Store_mustWait_88
def B_Store_mustWait_9 (R : Nat → Nat → Nat) (I : St) : Nat → Nat → Int32 → Nat → Int32 → Option Int32
  | 0, _, _, _, _ => none
  | f + 1, a0, x1, a2, x3 => (if (8 : Int32) ≤ x3 then B_Store_mustWait_68 R I 100 a0 x1 a2 (0 : Int32) else (ob (F_Store_groupOfKey R x3 I) (fun v17 => (ob (F_Store_readyNode R a0 v17 I) (fun v20 => (ob (F_Txn_writes R a2 x3 I) (fun v27 => (if v27 = 0 then B_Store_mustWait_60 R I (B_Store_mustWait_9 R I f) a0 x1 a2 x3 else (if v20 = (-1 : Int32) then B_Store_mustWait_60 R I (B_Store_mustWait_9 R I f) a0 x1 a2 x3 else (chk v20 6 ((ob (F_Store_isHeldForOther R a0 (R (R (R a0 1) v20.toNatClampNeg) 2) x3 x1 I) (fun v52 => (if v52 = 0 then B_Store_mustWait_60 R I (B_Store_mustWait_9 R I f) a0 x1 a2 x3 else some (1 : Int32)))))))))))))))
set_option maxHeartbeats 4000000 in
set_option maxRecDepth 100000 in
theorem b_Store_mustWait_9 {p : Program} {l : Launch} {e : Env} {s : State} {m : MethodId} {args : Array Value} {below : List Frame} {meth : Method} {c : Code} {g : Sg} {R : Nat → Nat → Nat} {I : St} {v : Int32} (cx : Cx p s m args meth c g R R_Store b_Store_mustWait 5 (some .boolean)) (f : Nat) : ∀ (a0 : Nat) (x1 : Int32) (a2 : Nat) (x3 : Int32) (H : Heap) (locs : List Loc) (ls : Array Slot), okA g 4 0 a0 → okA g 3 0 a2 → B_Store_mustWait_9 R I f a0 x1 a2 x3 = some v → wW g R I H → va_S (· ∈ g.L) s.heap H locs → lv_has ls 5 [(0, .ref a0), (1, .int x1), (2, .ref a2), (3, .int x3)] → W p l e { frames := 5, cells := 0, slots := 0, locals := 113 } s m args below meth c H locs 0 0 (MQ below (Qi g R v I) args s 0 0 (· ∈ g.L)) (F0 m 9 ls []) := by
  have ⟨hx, hb, hml, hr, hlk, hown, hall, hT, hK⟩ := cx
  induction f with
  | zero => intro a0 x1 a2 x3 H locs ls o0 o2 h; unfold B_Store_mustWait_9 at h; cases h
  | succ f ih =>
    intro a0 x1 a2 x3 H locs ls o0 o2 h hP hS hl
    unfold B_Store_mustWait_9 at h
    refine lv_iload_n hx hb d_Store_mustWait_9 rfl (lv_at hl 3 rfl) ?_
    refine lv_bipush (v := 8) hx hb d_Store_mustWait_10 (by decide) ?_
    refine lv_icmp_ge hx hb d_Store_mustWait_12 rfl (fun hc => ?_) (fun hc => ?_)
    · replace h := i_pos hc h
      refine lv_iconst (v := 0) hx hb d_Store_mustWait_66 (by decide) ?_
      refine lv_istore_n (lv' := [(3, .int (0 : Int32)), (0, .ref a0), (1, .int x1), (2, .ref a2)]) hx hb d_Store_mustWait_67 rfl hl (Nat.le_of_ble_eq_true rfl) rfl (fun ls hl => ?_)
      exact b_Store_mustWait_68 cx 100 _ _ _ _ _ _ _ o0 o2 h hP hS (lv_sub hl [1, 2, 3, 0] rfl)
    · replace h := i_neg hc h
      refine lv_aload_n hx hb d_Store_mustWait_15 rfl (lv_at hl 0 rfl) ?_
      refine lv_iload_n hx hb d_Store_mustWait_16 rfl (lv_at hl 3 rfl) ?_
      obtain ⟨v17, e17, h⟩ := ob_el h
      refine gg_Si (As := [.int x3]) (rest := [.ref a0]) ⟨hx, hb, hml, hown, hall⟩ (c_Store_groupOfKey l hT e17) (cwS 1 hall (gS m_230 m_211 m_6 m_164) rfl rfl rfl (by decide +kernel) ⟨Nat.le_of_ble_eq_true rfl, Nat.le_of_ble_eq_true rfl⟩) hK hP hS rfl hl.1 rfl (Nat.le_of_ble_eq_true rfl) d_Store_mustWait_17 (fun H locs hP hS => ?_)
      obtain ⟨v20, e20, h⟩ := ob_el h
      refine gg_Vi (As := [.int v17]) (rest := []) (ci := 4) (C := R_Store) (T := F_Store) (N := 4) ⟨hx, hb, hml, hown, hall⟩ (c_Store_readyNode l hT o0 e20) (cwV 1 hall (gV m_172 m_173 m_174 m_6 m_169) rfl rfl rfl (by decide +kernel) ⟨Nat.le_of_ble_eq_true rfl, Nat.le_of_ble_eq_true rfl⟩) hK hP hS o0.1 (wE_4 o0.2) rfl rfl hl.1 rfl (Nat.le_of_ble_eq_true rfl) d_Store_mustWait_20 (fun H locs hP hS => ?_)
      refine lv_istore (lv' := [(4, .int v20), (0, .ref a0), (1, .int x1), (2, .ref a2), (3, .int x3)]) hx hb d_Store_mustWait_23 hl (Nat.le_of_ble_eq_true rfl) rfl (fun ls hl => ?_)
      refine lv_aload_n hx hb d_Store_mustWait_25 rfl (lv_at hl 3 rfl) ?_
      refine lv_iload_n hx hb d_Store_mustWait_26 rfl (lv_at hl 4 rfl) ?_
      obtain ⟨v27, e27, h⟩ := ob_el h
      refine gg_Vi (As := [.int x3]) (rest := []) (ci := 3) (C := R_Txn) (T := F_Txn) (N := 5) ⟨hx, hb, hml, hown, hall⟩ (c_Txn_writes l hT o2 e27) (cwV 1 hall (gV m_203 m_204 m_205 m_180 m_163) rfl rfl rfl (by decide +kernel) ⟨Nat.le_of_ble_eq_true rfl, Nat.le_of_ble_eq_true rfl⟩) hK hP hS o2.1 (wE_3 o2.2) rfl rfl hl.1 rfl (Nat.le_of_ble_eq_true rfl) d_Store_mustWait_27 (fun H locs hP hS => ?_)
      refine lv_if_eq hx hb d_Store_mustWait_30 rfl (fun hc => ?_) (fun hc => ?_)
      · replace h := i_pos hc h
        exact b_Store_mustWait_60 cx ih _ _ _ _ _ _ _ o0 o2 h hP hS (lv_sub hl [1, 2, 3, 4] rfl)
      · replace h := i_neg hc h
        refine lv_iload hx hb d_Store_mustWait_33 (lv_at hl 0 rfl) ?_
        refine lv_iconst (v := (-1)) hx hb d_Store_mustWait_35 (by decide) ?_
        refine lv_icmp_eq hx hb d_Store_mustWait_36 rfl (fun hc => ?_) (fun hc => ?_)
        · replace h := i_pos hc h
          exact b_Store_mustWait_60 cx ih _ _ _ _ _ _ _ o0 o2 h hP hS (lv_sub hl [1, 2, 3, 4] rfl)
        · replace h := i_neg hc h
          refine lv_aload_n hx hb d_Store_mustWait_39 rfl (lv_at hl 1 rfl) ?_
          refine lv_aload_n hx hb d_Store_mustWait_40 rfl (lv_at hl 1 rfl) ?_
          refine gg_get (C := R_Store) (T := F_Store) (N := 4) (ci := 4) hx hb hall i_Store hown hK hP o0.1 (wE_4 o0.2) rfl 1 (by decide) (hall _ m_8) (fun _ h9 => h9) rfl d_Store_mustWait_41 ?_
          have o_41 : okA g 8 6 (R a0 1) := ty_Store_1 hT o0
          refine lv_iload hx hb d_Store_mustWait_44 (lv_at hl 0 rfl) ?_
          obtain ⟨hi46, h⟩ := chk_el h
          refine gg_nald hx hb hK hP o_41 hi46 d_Store_mustWait_46 ?_
          have o_46 : okA g 2 0 (R (R a0 1) v20.toNatClampNeg) := ty_8 hT o_41 _
          refine gg_get (C := R_Node) (T := F_Node) (N := 10) (ci := 2) hx hb hall i_Node hown hK hP o_46.1 (wE_2 o_46.2) rfl 2 (by decide) (hall _ m_134) (fun _ h9 => h9) rfl d_Store_mustWait_47 ?_
          have o_47 : okA g 1 0 (R (R (R a0 1) v20.toNatClampNeg) 2) := ty_Node_2 hT o_46
          refine lv_iload_n hx hb d_Store_mustWait_50 rfl (lv_at hl 4 rfl) ?_
          refine lv_iload_n hx hb d_Store_mustWait_51 rfl (lv_at hl 2 rfl) ?_
          obtain ⟨v52, e52, h⟩ := ob_el h
          refine gg_Vi (As := [.ref (R (R (R a0 1) v20.toNatClampNeg) 2), .int x3, .int x1]) (rest := []) (ci := 4) (C := R_Store) (T := F_Store) (N := 4) ⟨hx, hb, hml, hown, hall⟩ (c_Store_isHeldForOther l hT o0 o_47 e52) (cwV 3 hall (gV m_265 m_266 m_267 m_6 m_260) rfl rfl rfl (by decide +kernel) ⟨Nat.le_of_ble_eq_true rfl, Nat.le_of_ble_eq_true rfl⟩) hK hP hS o0.1 (wE_4 o0.2) rfl rfl hl.1 rfl (Nat.le_of_ble_eq_true rfl) d_Store_mustWait_52 (fun H locs hP hS => ?_)
          refine lv_if_eq hx hb d_Store_mustWait_55 rfl (fun hc => ?_) (fun hc => ?_)
          · replace h := i_pos hc h
            exact b_Store_mustWait_60 cx ih _ _ _ _ _ _ _ o0 o2 h hP hS (lv_sub hl [1, 2, 3, 4] rfl)
          · replace h := i_neg hc h
            refine lv_iconst (v := 1) hx hb d_Store_mustWait_58 (by decide) ?_
            obtain rfl := Option.some.inj h
            exact gg_zret hx hb hr hlk rfl hK hP hS d_Store_mustWait_59
def F_Store_mustWait (R : Nat → Nat → Nat) (a0 : Nat) (x1 : Int32) (I : St) : Option Int32 := (chk x1 16 (B_Store_mustWait_9 R I 100 a0 x1 (R (R a0 2) x1.toNatClampNeg) (0 : Int32)))
set_option maxHeartbeats 4000000 in
set_option maxRecDepth 100000 in
theorem c_Store_mustWait (l : Launch) {g : Sg} {R : Nat → Nat → Nat} (hT : Ty g R) {a0 : Nat} (o0 : okA g 4 0 a0) {x1 : Int32} {I : St} {v : Int32} (h : F_Store_mustWait R a0 x1 I = some v) : Cti l g R y_Store_mustWait w_Store_mustWait 5 113 [.ref a0, .int x1] I v I := by
  unfold Cti
  refine Met.ofW (cc := b_Store_mustWait) (maxL := 5) (ret := (some .boolean)) (by decide) rfl ?_
  intro p e s m args below meth c s₁ B hml hv
  obtain ⟨rfl, hP, hK⟩ := hv
  have hts := atoms_spec (ws := w_Store_mustWait) B.pre
  have hall : ∀ w ∈ w_all, w.before _ s = true := fun w hw => hts w (List.mem_cons_of_mem _ hw)
  have hown : s.vm.findClass R_Store = some m.cls := findClass_of_methodNamed B.named
  have hx := B.exec
  have hb := B.bytes
  have hr := B.returns
  have hlk := B.notSynchronized
  have cx : Cx p s m _ meth c g R R_Store b_Store_mustWait 5 (some .boolean) := ⟨hx, hb, hml, hr, hlk, hown, hall, hT, hK⟩
  have hl := lv_entry ([.ref a0, .int x1]) (n := 5) (Nat.le_of_ble_eq_true rfl)
  rw [lg_entry_eq]
  generalize (lg_sl ([.ref a0, .int x1]) ++ List.replicate (5 - (lg_sl ([.ref a0, .int x1])).length) Slot.unset).toArray = ls at hl ⊢
  have hl : lv_has ls 5 [(0, .ref a0), (1, .int x1)] := hl
  have hS : va_S (· ∈ g.L) s.heap s.heap [] := va_S.rf
  unfold F_Store_mustWait at h
  refine lv_aload_n hx hb d_Store_mustWait_0 rfl (lv_at hl 0 rfl) ?_
  refine gg_get (C := R_Store) (T := F_Store) (N := 4) (ci := 4) hx hb hall i_Store hown hK hP o0.1 (wE_4 o0.2) rfl 2 (by decide) (hall _ m_202) (fun _ h9 => h9) rfl d_Store_mustWait_1 ?_
  have o_1 : okA g 9 16 (R a0 2) := ty_Store_2 hT o0
  refine lv_iload_n hx hb d_Store_mustWait_4 rfl (lv_at hl 1 rfl) ?_
  obtain ⟨hi5, h⟩ := chk_el h
  refine gg_tald hx hb hK hP o_1 hi5 d_Store_mustWait_5 ?_
  have o_5 : okA g 3 0 (R (R a0 2) x1.toNatClampNeg) := ty_9 hT o_1 _
  refine lv_astore_n (lv' := [(2, .ref (R (R a0 2) x1.toNatClampNeg)), (0, .ref a0), (1, .int x1)]) hx hb d_Store_mustWait_6 rfl hl (Nat.le_of_ble_eq_true rfl) rfl (fun ls hl => ?_)
  refine lv_iconst (v := 0) hx hb d_Store_mustWait_7 (by decide) ?_
  refine lv_istore_n (lv' := [(3, .int (0 : Int32)), (2, .ref (R (R a0 2) x1.toNatClampNeg)), (0, .ref a0), (1, .int x1)]) hx hb d_Store_mustWait_8 rfl hl (Nat.le_of_ble_eq_true rfl) rfl (fun ls hl => ?_)
  exact b_Store_mustWait_9 cx 100 _ _ _ _ _ _ _ o0 o_5 h hP hS (lv_sub hl [2, 3, 1, 0] rfl)
abbrev b_Store_abortOtherReaders : ByteArray := prog_1_method_41_code
def y_Store_abortOtherReaders : MethodName := ⟨"StampedStore", "abortOtherReaders", "(LStampedStore$Transaction;)V"⟩
def w_Store_abortOtherReaders : List Cond := .code y_Store_abortOtherReaders b_Store_abortOtherReaders 3 none :: w_all
theorem d_Store_abortOtherReaders_0 : decode b_Store_abortOtherReaders 0 = .ok (.iconst 0, 1) := by decide +kernel
theorem d_Store_abortOtherReaders_1 : decode b_Store_abortOtherReaders 1 = .ok (.istore_n 2, 1) := by decide +kernel
theorem d_Store_abortOtherReaders_2 : decode b_Store_abortOtherReaders 2 = .ok (.iload_n 2, 1) := by decide +kernel
theorem d_Store_abortOtherReaders_3 : decode b_Store_abortOtherReaders 3 = .ok (.aload_n 0, 1) := by decide +kernel
theorem d_Store_abortOtherReaders_4 : decode b_Store_abortOtherReaders 4 = .ok (.getfield 119, 3) := by decide +kernel
theorem d_Store_abortOtherReaders_7 : decode b_Store_abortOtherReaders 7 = .ok (.if_icmp .ge 33, 3) := by decide +kernel
theorem d_Store_abortOtherReaders_10 : decode b_Store_abortOtherReaders 10 = .ok (.aload_n 0, 1) := by decide +kernel
theorem d_Store_abortOtherReaders_11 : decode b_Store_abortOtherReaders 11 = .ok (.aload_n 0, 1) := by decide +kernel
theorem d_Store_abortOtherReaders_12 : decode b_Store_abortOtherReaders 12 = .ok (.getfield 17, 3) := by decide +kernel
theorem d_Store_abortOtherReaders_15 : decode b_Store_abortOtherReaders 15 = .ok (.iload_n 2, 1) := by decide +kernel
theorem d_Store_abortOtherReaders_16 : decode b_Store_abortOtherReaders 16 = .ok (.aaload, 1) := by decide +kernel
theorem d_Store_abortOtherReaders_17 : decode b_Store_abortOtherReaders 17 = .ok (.aload_n 1, 1) := by decide +kernel
theorem d_Store_abortOtherReaders_18 : decode b_Store_abortOtherReaders 18 = .ok (.invokevirtual 253, 3) := by decide +kernel
theorem d_Store_abortOtherReaders_21 : decode b_Store_abortOtherReaders 21 = .ok (.ifCond .eq 13, 3) := by decide +kernel
theorem d_Store_abortOtherReaders_24 : decode b_Store_abortOtherReaders 24 = .ok (.aload_n 0, 1) := by decide +kernel
theorem d_Store_abortOtherReaders_25 : decode b_Store_abortOtherReaders 25 = .ok (.getfield 17, 3) := by decide +kernel
theorem d_Store_abortOtherReaders_28 : decode b_Store_abortOtherReaders 28 = .ok (.iload_n 2, 1) := by decide +kernel
theorem d_Store_abortOtherReaders_29 : decode b_Store_abortOtherReaders 29 = .ok (.aaload, 1) := by decide +kernel
theorem d_Store_abortOtherReaders_30 : decode b_Store_abortOtherReaders 30 = .ok (.iconst 4, 1) := by decide +kernel
theorem d_Store_abortOtherReaders_31 : decode b_Store_abortOtherReaders 31 = .ok (.putfield 128, 3) := by decide +kernel
theorem d_Store_abortOtherReaders_34 : decode b_Store_abortOtherReaders 34 = .ok (.iinc 2 1, 3) := by decide +kernel
theorem d_Store_abortOtherReaders_37 : decode b_Store_abortOtherReaders 37 = .ok (.goto (-35), 3) := by decide +kernel
theorem d_Store_abortOtherReaders_40 : decode b_Store_abortOtherReaders 40 = .ok (.return_, 1) := by decide +kernel
def B_Store_abortOtherReaders_34 (R : Nat → Nat → Nat) (k2 : Nat → Nat → Int32 → St → Option St) (a0 : Nat) (a1 : Nat) (x2 : Int32) (I : St) : Option St := k2 a0 a1 (x2 + 1) I
set_option maxHeartbeats 4000000 in
set_option maxRecDepth 100000 in
theorem b_Store_abortOtherReaders_34 {p : Program} {l : Launch} {e : Env} {s : State} {m : MethodId} {args : Array Value} {below : List Frame} {meth : Method} {c : Code} {g : Sg} {R : Nat → Nat → Nat} {J : St} (cx : Cx p s m args meth c g R R_Store b_Store_abortOtherReaders 3 none) {k2 : Nat → Nat → Int32 → St → Option St} (hk2 : ∀ (a0 : Nat) (a1 : Nat) (x2 : Int32) (I : St) (H : Heap) (locs : List Loc) (ls : Array Slot), okA g 4 0 a0 → okA g 3 0 a1 → k2 a0 a1 x2 I = some J → wW g R I H → va_S (· ∈ g.L) s.heap H locs → lv_has ls 3 [(0, .ref a0), (1, .ref a1), (2, .int x2)] → W p l e { frames := 5, cells := 0, slots := 0, locals := 109 } s m args below meth c H locs 0 0 (MQ below (Qu g R J) args s 0 0 (· ∈ g.L)) (F0 m 2 ls [])) : ∀ (a0 : Nat) (a1 : Nat) (x2 : Int32) (I : St) (H : Heap) (locs : List Loc) (ls : Array Slot), okA g 4 0 a0 → okA g 3 0 a1 → B_Store_abortOtherReaders_34 R k2 a0 a1 x2 I = some J → wW g R I H → va_S (· ∈ g.L) s.heap H locs → lv_has ls 3 [(0, .ref a0), (1, .ref a1), (2, .int x2)] → W p l e { frames := 5, cells := 0, slots := 0, locals := 109 } s m args below meth c H locs 0 0 (MQ below (Qu g R J) args s 0 0 (· ∈ g.L)) (F0 m 34 ls []) := by
  have ⟨hx, hb, hml, hr, hlk, hown, hall, hT, hK⟩ := cx
  intro a0 a1 x2 I H locs ls o0 o1 h hP hS hl
  unfold B_Store_abortOtherReaders_34 at h
  refine lv_iinc (k := 2) (v := (x2 + 1)) (lv' := [(2, .int (x2 + 1)), (0, .ref a0), (1, .ref a1)]) hx hb d_Store_abortOtherReaders_34 hl rfl (by rw [show Int32.ofInt 1 = (1 : Int32) from by decide]) (Nat.le_of_ble_eq_true rfl) rfl (fun ls hl => ?_)
  refine lv_goto hx hb d_Store_abortOtherReaders_37 rfl ?_
  exact hk2 _ _ _ _ _ _ _ o0 o1 h hP hS (lv_sub hl [1, 2, 0] rfl)
def B_Store_abortOtherReaders_2 (R : Nat → Nat → Nat) : Nat → Nat → Nat → Int32 → St → Option St
  | 0, _, _, _, _ => none
  | f + 1, a0, a1, x2, I => (if (I a0 3) ≤ x2 then some I else (chk x2 16 ((ob (F_Store_holdsReadsAgainst R a0 (R (R a0 2) x2.toNatClampNeg) a1 I) (fun v18 => (if v18 = 0 then B_Store_abortOtherReaders_34 R (B_Store_abortOtherReaders_2 R f) a0 a1 x2 I else (chk x2 16 ((ap (up2 I (R (R a0 2) x2.toNatClampNeg) 3 (4 : Int32)) (fun I31 => B_Store_abortOtherReaders_34 R (B_Store_abortOtherReaders_2 R f) a0 a1 x2 I31))))))))))
set_option maxHeartbeats 4000000 in
set_option maxRecDepth 100000 in
theorem b_Store_abortOtherReaders_2 {p : Program} {l : Launch} {e : Env} {s : State} {m : MethodId} {args : Array Value} {below : List Frame} {meth : Method} {c : Code} {g : Sg} {R : Nat → Nat → Nat} {J : St} (cx : Cx p s m args meth c g R R_Store b_Store_abortOtherReaders 3 none) (f : Nat) : ∀ (a0 : Nat) (a1 : Nat) (x2 : Int32) (I : St) (H : Heap) (locs : List Loc) (ls : Array Slot), okA g 4 0 a0 → okA g 3 0 a1 → B_Store_abortOtherReaders_2 R f a0 a1 x2 I = some J → wW g R I H → va_S (· ∈ g.L) s.heap H locs → lv_has ls 3 [(0, .ref a0), (1, .ref a1), (2, .int x2)] → W p l e { frames := 5, cells := 0, slots := 0, locals := 109 } s m args below meth c H locs 0 0 (MQ below (Qu g R J) args s 0 0 (· ∈ g.L)) (F0 m 2 ls []) := by
  have ⟨hx, hb, hml, hr, hlk, hown, hall, hT, hK⟩ := cx
  induction f with
  | zero => intro a0 a1 x2 I H locs ls o0 o1 h; unfold B_Store_abortOtherReaders_2 at h; cases h
  | succ f ih =>
    intro a0 a1 x2 I H locs ls o0 o1 h hP hS hl
    unfold B_Store_abortOtherReaders_2 at h
    refine lv_iload_n hx hb d_Store_abortOtherReaders_2 rfl (lv_at hl 2 rfl) ?_
    refine lv_aload_n hx hb d_Store_abortOtherReaders_3 rfl (lv_at hl 0 rfl) ?_
    refine gg_get (C := R_Store) (T := F_Store) (N := 4) (ci := 4) hx hb hall i_Store hown hK hP o0.1 (wE_4 o0.2) rfl 3 (by decide) (hall _ m_158) (fun _ h9 => h9) rfl d_Store_abortOtherReaders_4 ?_
    refine lv_icmp_ge hx hb d_Store_abortOtherReaders_7 rfl (fun hc => ?_) (fun hc => ?_)
    · replace h := i_pos hc h
      obtain rfl := Option.some.inj h
      exact gg_vret hx hb hr hlk hK hP hS d_Store_abortOtherReaders_40
    · replace h := i_neg hc h
      refine lv_aload_n hx hb d_Store_abortOtherReaders_10 rfl (lv_at hl 0 rfl) ?_
      refine lv_aload_n hx hb d_Store_abortOtherReaders_11 rfl (lv_at hl 0 rfl) ?_
      refine gg_get (C := R_Store) (T := F_Store) (N := 4) (ci := 4) hx hb hall i_Store hown hK hP o0.1 (wE_4 o0.2) rfl 2 (by decide) (hall _ m_202) (fun _ h9 => h9) rfl d_Store_abortOtherReaders_12 ?_
      have o_12 : okA g 9 16 (R a0 2) := ty_Store_2 hT o0
      refine lv_iload_n hx hb d_Store_abortOtherReaders_15 rfl (lv_at hl 2 rfl) ?_
      obtain ⟨hi16, h⟩ := chk_el h
      refine gg_tald hx hb hK hP o_12 hi16 d_Store_abortOtherReaders_16 ?_
      have o_16 : okA g 3 0 (R (R a0 2) x2.toNatClampNeg) := ty_9 hT o_12 _
      refine lv_aload_n hx hb d_Store_abortOtherReaders_17 rfl (lv_at hl 1 rfl) ?_
      obtain ⟨v18, e18, h⟩ := ob_el h
      refine gg_Vi (As := [.ref (R (R a0 2) x2.toNatClampNeg), .ref a1]) (rest := []) (ci := 4) (C := R_Store) (T := F_Store) (N := 4) ⟨hx, hb, hml, hown, hall⟩ (c_Store_holdsReadsAgainst l hT o0 o_16 o1 e18) (cwV 2 hall (gV m_262 m_263 m_264 m_6 m_261) rfl rfl rfl (by decide +kernel) ⟨Nat.le_of_ble_eq_true rfl, Nat.le_of_ble_eq_true rfl⟩) hK hP hS o0.1 (wE_4 o0.2) rfl rfl hl.1 rfl (Nat.le_of_ble_eq_true rfl) d_Store_abortOtherReaders_18 (fun H locs hP hS => ?_)
      refine lv_if_eq hx hb d_Store_abortOtherReaders_21 rfl (fun hc => ?_) (fun hc => ?_)
      · replace h := i_pos hc h
        exact b_Store_abortOtherReaders_34 cx ih _ _ _ _ _ _ _ o0 o1 h hP hS (lv_sub hl [0, 1, 2] rfl)
      · replace h := i_neg hc h
        refine lv_aload_n hx hb d_Store_abortOtherReaders_24 rfl (lv_at hl 0 rfl) ?_
        refine gg_get (C := R_Store) (T := F_Store) (N := 4) (ci := 4) hx hb hall i_Store hown hK hP o0.1 (wE_4 o0.2) rfl 2 (by decide) (hall _ m_202) (fun _ h9 => h9) rfl d_Store_abortOtherReaders_25 ?_
        have o_25 : okA g 9 16 (R a0 2) := ty_Store_2 hT o0
        refine lv_iload_n hx hb d_Store_abortOtherReaders_28 rfl (lv_at hl 2 rfl) ?_
        obtain ⟨hi29, h⟩ := chk_el h
        refine gg_tald hx hb hK hP o_25 hi29 d_Store_abortOtherReaders_29 ?_
        have o_29 : okA g 3 0 (R (R a0 2) x2.toNatClampNeg) := ty_9 hT o_25 _
        refine lv_iconst (v := 4) hx hb d_Store_abortOtherReaders_30 (by decide) ?_
        refine gg_put (C := R_Txn) (T := F_Txn) (N := 5) (ci := 3) (ty := .int) hx hb hall i_Txn t_Txn t_Txn_ok n_Txn hown hT.1 hK hP hS o_29.1 (wE_3 o_29.2) rfl 3 (by decide) (hall _ m_229) (fun _ h9 => h9) rfl (by decide +kernel) rfl rfl (Nat.le_of_ble_eq_true rfl) (ws_Txn_3 o_29.2) d_Store_abortOtherReaders_31 (fun I31 H locs e31 hP hS => ?_)
        replace h := ap_el e31 h
        exact b_Store_abortOtherReaders_34 cx ih _ _ _ _ _ _ _ o0 o1 h hP hS (lv_sub hl [0, 1, 2] rfl)
def F_Store_abortOtherReaders (R : Nat → Nat → Nat) (a0 : Nat) (a1 : Nat) (I : St) : Option St := B_Store_abortOtherReaders_2 R 100 a0 a1 (0 : Int32) I
set_option maxHeartbeats 4000000 in
set_option maxRecDepth 100000 in
theorem c_Store_abortOtherReaders (l : Launch) {g : Sg} {R : Nat → Nat → Nat} (hT : Ty g R) {a0 : Nat} (o0 : okA g 4 0 a0) {a1 : Nat} (o1 : okA g 3 0 a1) {I : St} {J : St} (h : F_Store_abortOtherReaders R a0 a1 I = some J) : Ctv l g R y_Store_abortOtherReaders w_Store_abortOtherReaders 5 109 [.ref a0, .ref a1] I J := by
  unfold Ctv
  refine Met.ofW (cc := b_Store_abortOtherReaders) (maxL := 3) (ret := none) (by decide) rfl ?_
  intro p e s m args below meth c s₁ B hml hv
  obtain ⟨rfl, hP, hK⟩ := hv
  have hts := atoms_spec (ws := w_Store_abortOtherReaders) B.pre
  have hall : ∀ w ∈ w_all, w.before _ s = true := fun w hw => hts w (List.mem_cons_of_mem _ hw)
  have hown : s.vm.findClass R_Store = some m.cls := findClass_of_methodNamed B.named
  have hx := B.exec
  have hb := B.bytes
  have hr := B.returns
  have hlk := B.notSynchronized
  have cx : Cx p s m _ meth c g R R_Store b_Store_abortOtherReaders 3 none := ⟨hx, hb, hml, hr, hlk, hown, hall, hT, hK⟩
  have hl := lv_entry ([.ref a0, .ref a1]) (n := 3) (Nat.le_of_ble_eq_true rfl)
  rw [lg_entry_eq]
  generalize (lg_sl ([.ref a0, .ref a1]) ++ List.replicate (3 - (lg_sl ([.ref a0, .ref a1])).length) Slot.unset).toArray = ls at hl ⊢
  have hl : lv_has ls 3 [(0, .ref a0), (1, .ref a1)] := hl
  have hS : va_S (· ∈ g.L) s.heap s.heap [] := va_S.rf
  unfold F_Store_abortOtherReaders at h
  refine lv_iconst (v := 0) hx hb d_Store_abortOtherReaders_0 (by decide) ?_
  refine lv_istore_n (lv' := [(2, .int (0 : Int32)), (0, .ref a0), (1, .ref a1)]) hx hb d_Store_abortOtherReaders_1 rfl hl (Nat.le_of_ble_eq_true rfl) rfl (fun ls hl => ?_)
  exact b_Store_abortOtherReaders_2 cx 100 _ _ _ _ _ _ _ o0 o1 h hP hS (lv_sub hl [1, 2, 0] rfl)
abbrev b_Txn_usesBothGroups : ByteArray := prog_5_method_6_code
def y_Txn_usesBothGroups : MethodName := ⟨"StampedStore$Transaction", "usesBothGroups", "()Z"⟩
def w_Txn_usesBothGroups : List Cond := .code y_Txn_usesBothGroups b_Txn_usesBothGroups 1 (some .boolean) :: w_all
theorem d_Txn_usesBothGroups_0 : decode b_Txn_usesBothGroups 0 = .ok (.aload_n 0, 1) := by decide +kernel
theorem d_Txn_usesBothGroups_1 : decode b_Txn_usesBothGroups 1 = .ok (.iconst 0, 1) := by decide +kernel
theorem d_Txn_usesBothGroups_2 : decode b_Txn_usesBothGroups 2 = .ok (.invokevirtual 42, 3) := by decide +kernel
theorem d_Txn_usesBothGroups_5 : decode b_Txn_usesBothGroups 5 = .ok (.ifCond .eq 15, 3) := by decide +kernel
theorem d_Txn_usesBothGroups_8 : decode b_Txn_usesBothGroups 8 = .ok (.aload_n 0, 1) := by decide +kernel
theorem d_Txn_usesBothGroups_9 : decode b_Txn_usesBothGroups 9 = .ok (.iconst 1, 1) := by decide +kernel
theorem d_Txn_usesBothGroups_10 : decode b_Txn_usesBothGroups 10 = .ok (.invokevirtual 42, 3) := by decide +kernel
theorem d_Txn_usesBothGroups_13 : decode b_Txn_usesBothGroups 13 = .ok (.ifCond .eq 7, 3) := by decide +kernel
theorem d_Txn_usesBothGroups_16 : decode b_Txn_usesBothGroups 16 = .ok (.iconst 1, 1) := by decide +kernel
theorem d_Txn_usesBothGroups_17 : decode b_Txn_usesBothGroups 17 = .ok (.goto 4, 3) := by decide +kernel
theorem d_Txn_usesBothGroups_20 : decode b_Txn_usesBothGroups 20 = .ok (.iconst 0, 1) := by decide +kernel
theorem d_Txn_usesBothGroups_21 : decode b_Txn_usesBothGroups 21 = .ok (.ireturn, 1) := by decide +kernel
def B_Txn_usesBothGroups_20 (R : Nat → Nat → Nat) (I : St) : Option Int32 := some (0 : Int32)
set_option maxHeartbeats 4000000 in
set_option maxRecDepth 100000 in
theorem b_Txn_usesBothGroups_20 {p : Program} {l : Launch} {e : Env} {s : State} {m : MethodId} {args : Array Value} {below : List Frame} {meth : Method} {c : Code} {g : Sg} {R : Nat → Nat → Nat} {I : St} {v : Int32} (cx : Cx p s m args meth c g R R_Txn b_Txn_usesBothGroups 1 (some .boolean)) : ∀ (H : Heap) (locs : List Loc) (ls : Array Slot), B_Txn_usesBothGroups_20 R I = some v → wW g R I H → va_S (· ∈ g.L) s.heap H locs → lv_has ls 1 [] → W p l e { frames := 3, cells := 0, slots := 0, locals := 65 } s m args below meth c H locs 0 0 (MQ below (Qi g R v I) args s 0 0 (· ∈ g.L)) (F0 m 20 ls []) := by
  have ⟨hx, hb, hml, hr, hlk, hown, hall, hT, hK⟩ := cx
  intro H locs ls h hP hS hl
  unfold B_Txn_usesBothGroups_20 at h
  refine lv_iconst (v := 0) hx hb d_Txn_usesBothGroups_20 (by decide) ?_
  obtain rfl := Option.some.inj h
  exact gg_zret hx hb hr hlk rfl hK hP hS d_Txn_usesBothGroups_21
def F_Txn_usesBothGroups (R : Nat → Nat → Nat) (a0 : Nat) (I : St) : Option Int32 := (ob (F_Txn_usesGroup R a0 (0 : Int32) I) (fun v2 => (if v2 = 0 then B_Txn_usesBothGroups_20 R I else (ob (F_Txn_usesGroup R a0 (1 : Int32) I) (fun v10 => (if v10 = 0 then B_Txn_usesBothGroups_20 R I else some (1 : Int32)))))))
set_option maxHeartbeats 4000000 in
set_option maxRecDepth 100000 in
theorem c_Txn_usesBothGroups (l : Launch) {g : Sg} {R : Nat → Nat → Nat} (hT : Ty g R) {a0 : Nat} (o0 : okA g 3 0 a0) {I : St} {v : Int32} (h : F_Txn_usesBothGroups R a0 I = some v) : Cti l g R y_Txn_usesBothGroups w_Txn_usesBothGroups 3 65 [.ref a0] I v I := by
  unfold Cti
  refine Met.ofW (cc := b_Txn_usesBothGroups) (maxL := 1) (ret := (some .boolean)) (by decide) rfl ?_
  intro p e s m args below meth c s₁ B hml hv
  obtain ⟨rfl, hP, hK⟩ := hv
  have hts := atoms_spec (ws := w_Txn_usesBothGroups) B.pre
  have hall : ∀ w ∈ w_all, w.before _ s = true := fun w hw => hts w (List.mem_cons_of_mem _ hw)
  have hown : s.vm.findClass R_Txn = some m.cls := findClass_of_methodNamed B.named
  have hx := B.exec
  have hb := B.bytes
  have hr := B.returns
  have hlk := B.notSynchronized
  have cx : Cx p s m _ meth c g R R_Txn b_Txn_usesBothGroups 1 (some .boolean) := ⟨hx, hb, hml, hr, hlk, hown, hall, hT, hK⟩
  have hl := lv_entry ([.ref a0]) (n := 1) (Nat.le_of_ble_eq_true rfl)
  rw [lg_entry_eq]
  generalize (lg_sl ([.ref a0]) ++ List.replicate (1 - (lg_sl ([.ref a0])).length) Slot.unset).toArray = ls at hl ⊢
  have hl : lv_has ls 1 [(0, .ref a0)] := hl
  have hS : va_S (· ∈ g.L) s.heap s.heap [] := va_S.rf
  unfold F_Txn_usesBothGroups at h
  refine lv_aload_n hx hb d_Txn_usesBothGroups_0 rfl (lv_at hl 0 rfl) ?_
  refine lv_iconst (v := 0) hx hb d_Txn_usesBothGroups_1 (by decide) ?_
  obtain ⟨v2, e2, h⟩ := ob_el h
  refine gg_Vi (As := [.int (0 : Int32)]) (rest := []) (ci := 3) (C := R_Txn) (T := F_Txn) (N := 5) ⟨hx, hb, hml, hown, hall⟩ (c_Txn_usesGroup l hT o0 e2) (cwV 1 hall (gV m_270 m_253 m_254 m_180 m_251) rfl rfl rfl (by decide +kernel) ⟨Nat.le_of_ble_eq_true rfl, Nat.le_of_ble_eq_true rfl⟩) hK hP hS o0.1 (wE_3 o0.2) rfl rfl hl.1 rfl (Nat.le_of_ble_eq_true rfl) d_Txn_usesBothGroups_2 (fun H locs hP hS => ?_)
  refine lv_if_eq hx hb d_Txn_usesBothGroups_5 rfl (fun hc => ?_) (fun hc => ?_)
  · replace h := i_pos hc h
    exact b_Txn_usesBothGroups_20 cx _ _ _ h hP hS (lv_sub hl [] rfl)
  · replace h := i_neg hc h
    refine lv_aload_n hx hb d_Txn_usesBothGroups_8 rfl (lv_at hl 0 rfl) ?_
    refine lv_iconst (v := 1) hx hb d_Txn_usesBothGroups_9 (by decide) ?_
    obtain ⟨v10, e10, h⟩ := ob_el h
    refine gg_Vi (As := [.int (1 : Int32)]) (rest := []) (ci := 3) (C := R_Txn) (T := F_Txn) (N := 5) ⟨hx, hb, hml, hown, hall⟩ (c_Txn_usesGroup l hT o0 e10) (cwV 1 hall (gV m_270 m_253 m_254 m_180 m_251) rfl rfl rfl (by decide +kernel) ⟨Nat.le_of_ble_eq_true rfl, Nat.le_of_ble_eq_true rfl⟩) hK hP hS o0.1 (wE_3 o0.2) rfl rfl hl.1 rfl (Nat.le_of_ble_eq_true rfl) d_Txn_usesBothGroups_10 (fun H locs hP hS => ?_)
    refine lv_if_eq hx hb d_Txn_usesBothGroups_13 rfl (fun hc => ?_) (fun hc => ?_)
    · replace h := i_pos hc h
      exact b_Txn_usesBothGroups_20 cx _ _ _ h hP hS (lv_sub hl [] rfl)
    · replace h := i_neg hc h
      refine lv_iconst (v := 1) hx hb d_Txn_usesBothGroups_16 (by decide) ?_
      refine lv_goto hx hb d_Txn_usesBothGroups_17 rfl ?_
      obtain rfl := Option.some.inj h
      exact gg_zret hx hb hr hlk rfl hK hP hS d_Txn_usesBothGroups_21
abbrev b_Store_writeFirstEntries : ByteArray := prog_1_method_42_code
def y_Store_writeFirstEntries : MethodName := ⟨"StampedStore", "writeFirstEntries", "(I)V"⟩
def w_Store_writeFirstEntries : List Cond := .code y_Store_writeFirstEntries b_Store_writeFirstEntries 6 none :: w_all
theorem d_Store_writeFirstEntries_0 : decode b_Store_writeFirstEntries 0 = .ok (.aload_n 0, 1) := by decide +kernel
theorem d_Store_writeFirstEntries_1 : decode b_Store_writeFirstEntries 1 = .ok (.getfield 17, 3) := by decide +kernel
theorem d_Store_writeFirstEntries_4 : decode b_Store_writeFirstEntries 4 = .ok (.iload_n 1, 1) := by decide +kernel
theorem d_Store_writeFirstEntries_5 : decode b_Store_writeFirstEntries 5 = .ok (.aaload, 1) := by decide +kernel
theorem d_Store_writeFirstEntries_6 : decode b_Store_writeFirstEntries 6 = .ok (.astore_n 2, 1) := by decide +kernel
theorem d_Store_writeFirstEntries_7 : decode b_Store_writeFirstEntries 7 = .ok (.aload_n 2, 1) := by decide +kernel
theorem d_Store_writeFirstEntries_8 : decode b_Store_writeFirstEntries 8 = .ok (.invokevirtual 257, 3) := by decide +kernel
theorem d_Store_writeFirstEntries_11 : decode b_Store_writeFirstEntries 11 = .ok (.ifCond .eq 7, 3) := by decide +kernel
theorem d_Store_writeFirstEntries_14 : decode b_Store_writeFirstEntries 14 = .ok (.iconst 1, 1) := by decide +kernel
theorem d_Store_writeFirstEntries_15 : decode b_Store_writeFirstEntries 15 = .ok (.goto 4, 3) := by decide +kernel
theorem d_Store_writeFirstEntries_18 : decode b_Store_writeFirstEntries 18 = .ok (.iconst 2, 1) := by decide +kernel
theorem d_Store_writeFirstEntries_19 : decode b_Store_writeFirstEntries 19 = .ok (.istore_n 3, 1) := by decide +kernel
theorem d_Store_writeFirstEntries_20 : decode b_Store_writeFirstEntries 20 = .ok (.iconst 0, 1) := by decide +kernel
theorem d_Store_writeFirstEntries_21 : decode b_Store_writeFirstEntries 21 = .ok (.istore 4, 2) := by decide +kernel
theorem d_Store_writeFirstEntries_23 : decode b_Store_writeFirstEntries 23 = .ok (.iload 4, 2) := by decide +kernel
theorem d_Store_writeFirstEntries_25 : decode b_Store_writeFirstEntries 25 = .ok (.iconst 2, 1) := by decide +kernel
theorem d_Store_writeFirstEntries_26 : decode b_Store_writeFirstEntries 26 = .ok (.if_icmp .ge 47, 3) := by decide +kernel
theorem d_Store_writeFirstEntries_29 : decode b_Store_writeFirstEntries 29 = .ok (.aload_n 0, 1) := by decide +kernel
theorem d_Store_writeFirstEntries_30 : decode b_Store_writeFirstEntries 30 = .ok (.iload 4, 2) := by decide +kernel
theorem d_Store_writeFirstEntries_32 : decode b_Store_writeFirstEntries 32 = .ok (.invokevirtual 141, 3) := by decide +kernel
theorem d_Store_writeFirstEntries_35 : decode b_Store_writeFirstEntries 35 = .ok (.istore 5, 2) := by decide +kernel
theorem d_Store_writeFirstEntries_37 : decode b_Store_writeFirstEntries 37 = .ok (.aload_n 2, 1) := by decide +kernel
theorem d_Store_writeFirstEntries_38 : decode b_Store_writeFirstEntries 38 = .ok (.iload 4, 2) := by decide +kernel
theorem d_Store_writeFirstEntries_40 : decode b_Store_writeFirstEntries 40 = .ok (.invokevirtual 240, 3) := by decide +kernel
theorem d_Store_writeFirstEntries_43 : decode b_Store_writeFirstEntries 43 = .ok (.ifCond .eq 24, 3) := by decide +kernel
theorem d_Store_writeFirstEntries_46 : decode b_Store_writeFirstEntries 46 = .ok (.iload 5, 2) := by decide +kernel
theorem d_Store_writeFirstEntries_48 : decode b_Store_writeFirstEntries 48 = .ok (.iconst (-1), 1) := by decide +kernel
theorem d_Store_writeFirstEntries_49 : decode b_Store_writeFirstEntries 49 = .ok (.if_icmp .eq 18, 3) := by decide +kernel
theorem d_Store_writeFirstEntries_52 : decode b_Store_writeFirstEntries 52 = .ok (.aload_n 0, 1) := by decide +kernel
theorem d_Store_writeFirstEntries_53 : decode b_Store_writeFirstEntries 53 = .ok (.getfield 11, 3) := by decide +kernel
theorem d_Store_writeFirstEntries_56 : decode b_Store_writeFirstEntries 56 = .ok (.iload 5, 2) := by decide +kernel
theorem d_Store_writeFirstEntries_58 : decode b_Store_writeFirstEntries 58 = .ok (.aaload, 1) := by decide +kernel
theorem d_Store_writeFirstEntries_59 : decode b_Store_writeFirstEntries 59 = .ok (.iload_n 3, 1) := by decide +kernel
theorem d_Store_writeFirstEntries_60 : decode b_Store_writeFirstEntries 60 = .ok (.iload_n 1, 1) := by decide +kernel
theorem d_Store_writeFirstEntries_61 : decode b_Store_writeFirstEntries 61 = .ok (.iconst (-1), 1) := by decide +kernel
theorem d_Store_writeFirstEntries_62 : decode b_Store_writeFirstEntries 62 = .ok (.iconst 0, 1) := by decide +kernel
theorem d_Store_writeFirstEntries_63 : decode b_Store_writeFirstEntries 63 = .ok (.invokevirtual 72, 3) := by decide +kernel
theorem d_Store_writeFirstEntries_66 : decode b_Store_writeFirstEntries 66 = .ok (.pop, 1) := by decide +kernel
theorem d_Store_writeFirstEntries_67 : decode b_Store_writeFirstEntries 67 = .ok (.iinc 4 1, 3) := by decide +kernel
theorem d_Store_writeFirstEntries_70 : decode b_Store_writeFirstEntries 70 = .ok (.goto (-47), 3) := by decide +kernel
theorem d_Store_writeFirstEntries_73 : decode b_Store_writeFirstEntries 73 = .ok (.aload_n 2, 1) := by decide +kernel
theorem d_Store_writeFirstEntries_74 : decode b_Store_writeFirstEntries 74 = .ok (.iload_n 3, 1) := by decide +kernel
theorem d_Store_writeFirstEntries_75 : decode b_Store_writeFirstEntries 75 = .ok (.iconst 1, 1) := by decide +kernel
theorem d_Store_writeFirstEntries_76 : decode b_Store_writeFirstEntries 76 = .ok (.if_icmp .ne 7, 3) := by decide +kernel
theorem d_Store_writeFirstEntries_79 : decode b_Store_writeFirstEntries 79 = .ok (.iconst 1, 1) := by decide +kernel
theorem d_Store_writeFirstEntries_80 : decode b_Store_writeFirstEntries 80 = .ok (.goto 4, 3) := by decide +kernel
theorem d_Store_writeFirstEntries_83 : decode b_Store_writeFirstEntries 83 = .ok (.iconst 2, 1) := by decide +kernel
theorem d_Store_writeFirstEntries_84 : decode b_Store_writeFirstEntries 84 = .ok (.putfield 128, 3) := by decide +kernel
theorem d_Store_writeFirstEntries_87 : decode b_Store_writeFirstEntries 87 = .ok (.return_, 1) := by decide +kernel
def B_Store_writeFirstEntries_67 (R : Nat → Nat → Nat) (k23 : Nat → Int32 → Nat → Int32 → Int32 → St → Option St) (a0 : Nat) (x1 : Int32) (a2 : Nat) (x3 : Int32) (x4 : Int32) (I : St) : Option St := k23 a0 x1 a2 x3 (x4 + 1) I
set_option maxHeartbeats 4000000 in
set_option maxRecDepth 100000 in
theorem b_Store_writeFirstEntries_67 {p : Program} {l : Launch} {e : Env} {s : State} {m : MethodId} {args : Array Value} {below : List Frame} {meth : Method} {c : Code} {g : Sg} {R : Nat → Nat → Nat} {J : St} (cx : Cx p s m args meth c g R R_Store b_Store_writeFirstEntries 6 none) {k23 : Nat → Int32 → Nat → Int32 → Int32 → St → Option St} (hk23 : ∀ (a0 : Nat) (x1 : Int32) (a2 : Nat) (x3 : Int32) (x4 : Int32) (I : St) (H : Heap) (locs : List Loc) (ls : Array Slot), okA g 4 0 a0 → okA g 3 0 a2 → k23 a0 x1 a2 x3 x4 I = some J → wW g R I H → va_S (· ∈ g.L) s.heap H locs → lv_has ls 6 [(0, .ref a0), (1, .int x1), (2, .ref a2), (3, .int x3), (4, .int x4)] → W p l e { frames := 4, cells := 0, slots := 0, locals := 90 } s m args below meth c H locs 0 0 (MQ below (Qu g R J) args s 0 0 (· ∈ g.L)) (F0 m 23 ls [])) : ∀ (a0 : Nat) (x1 : Int32) (a2 : Nat) (x3 : Int32) (x4 : Int32) (I : St) (H : Heap) (locs : List Loc) (ls : Array Slot), okA g 4 0 a0 → okA g 3 0 a2 → B_Store_writeFirstEntries_67 R k23 a0 x1 a2 x3 x4 I = some J → wW g R I H → va_S (· ∈ g.L) s.heap H locs → lv_has ls 6 [(0, .ref a0), (1, .int x1), (2, .ref a2), (3, .int x3), (4, .int x4)] → W p l e { frames := 4, cells := 0, slots := 0, locals := 90 } s m args below meth c H locs 0 0 (MQ below (Qu g R J) args s 0 0 (· ∈ g.L)) (F0 m 67 ls []) := by
  have ⟨hx, hb, hml, hr, hlk, hown, hall, hT, hK⟩ := cx
  intro a0 x1 a2 x3 x4 I H locs ls o0 o2 h hP hS hl
  unfold B_Store_writeFirstEntries_67 at h
  refine lv_iinc (k := 4) (v := (x4 + 1)) (lv' := [(4, .int (x4 + 1)), (0, .ref a0), (1, .int x1), (2, .ref a2), (3, .int x3)]) hx hb d_Store_writeFirstEntries_67 hl rfl (by rw [show Int32.ofInt 1 = (1 : Int32) from by decide]) (Nat.le_of_ble_eq_true rfl) rfl (fun ls hl => ?_)
  refine lv_goto hx hb d_Store_writeFirstEntries_70 rfl ?_
  exact hk23 _ _ _ _ _ _ _ _ _ o0 o2 h hP hS (lv_sub hl [1, 2, 3, 4, 0] rfl)
def B_Store_writeFirstEntries_84 (R : Nat → Nat → Nat) (u0 : Nat) (t1 : Int32) (I : St) : Option St := (ap (up2 I u0 3 t1) (fun I84 => some I84))
set_option maxHeartbeats 4000000 in
set_option maxRecDepth 100000 in
theorem b_Store_writeFirstEntries_84 {p : Program} {l : Launch} {e : Env} {s : State} {m : MethodId} {args : Array Value} {below : List Frame} {meth : Method} {c : Code} {g : Sg} {R : Nat → Nat → Nat} {J : St} (cx : Cx p s m args meth c g R R_Store b_Store_writeFirstEntries 6 none) : ∀ (u0 : Nat) (t1 : Int32) (I : St) (H : Heap) (locs : List Loc) (ls : Array Slot), okA g 3 0 u0 → B_Store_writeFirstEntries_84 R u0 t1 I = some J → wW g R I H → va_S (· ∈ g.L) s.heap H locs → lv_has ls 6 [] → W p l e { frames := 4, cells := 0, slots := 0, locals := 90 } s m args below meth c H locs 0 0 (MQ below (Qu g R J) args s 0 0 (· ∈ g.L)) (F0 m 84 ls [.int t1, .ref u0]) := by
  have ⟨hx, hb, hml, hr, hlk, hown, hall, hT, hK⟩ := cx
  intro u0 t1 I H locs ls q0 h hP hS hl
  unfold B_Store_writeFirstEntries_84 at h
  refine gg_put (C := R_Txn) (T := F_Txn) (N := 5) (ci := 3) (ty := .int) hx hb hall i_Txn t_Txn t_Txn_ok n_Txn hown hT.1 hK hP hS q0.1 (wE_3 q0.2) rfl 3 (by decide) (hall _ m_229) (fun _ h9 => h9) rfl (by decide +kernel) rfl rfl (Nat.le_of_ble_eq_true rfl) (ws_Txn_3 q0.2) d_Store_writeFirstEntries_84 (fun I84 H locs e84 hP hS => ?_)
  replace h := ap_el e84 h
  obtain rfl := Option.some.inj h
  exact gg_vret hx hb hr hlk hK hP hS d_Store_writeFirstEntries_87
def B_Store_writeFirstEntries_23 (R : Nat → Nat → Nat) : Nat → Nat → Int32 → Nat → Int32 → Int32 → St → Option St
  | 0, _, _, _, _, _, _ => none
  | f + 1, a0, x1, a2, x3, x4, I => (if (2 : Int32) ≤ x4 then (if x3 = (1 : Int32) then B_Store_writeFirstEntries_84 R a2 (1 : Int32) I else B_Store_writeFirstEntries_84 R a2 (2 : Int32) I) else (ob (F_Store_readyNode R a0 x4 I) (fun v32 => (ob (F_Txn_usesGroup R a2 x4 I) (fun v40 => (if v40 = 0 then B_Store_writeFirstEntries_67 R (B_Store_writeFirstEntries_23 R f) a0 x1 a2 x3 x4 I else (if v32 = (-1 : Int32) then B_Store_writeFirstEntries_67 R (B_Store_writeFirstEntries_23 R f) a0 x1 a2 x3 x4 I else (chk v32 6 ((ob2 (F_Node_put R (R (R a0 1) v32.toNatClampNeg) x3 x1 (-1 : Int32) (0 : Int32) I) (fun v63 I63 => B_Store_writeFirstEntries_67 R (B_Store_writeFirstEntries_23 R f) a0 x1 a2 x3 x4 I63)))))))))))
set_option maxHeartbeats 4000000 in
set_option maxRecDepth 100000 in
theorem b_Store_writeFirstEntries_23 {p : Program} {l : Launch} {e : Env} {s : State} {m : MethodId} {args : Array Value} {below : List Frame} {meth : Method} {c : Code} {g : Sg} {R : Nat → Nat → Nat} {J : St} (cx : Cx p s m args meth c g R R_Store b_Store_writeFirstEntries 6 none) (f : Nat) : ∀ (a0 : Nat) (x1 : Int32) (a2 : Nat) (x3 : Int32) (x4 : Int32) (I : St) (H : Heap) (locs : List Loc) (ls : Array Slot), okA g 4 0 a0 → okA g 3 0 a2 → B_Store_writeFirstEntries_23 R f a0 x1 a2 x3 x4 I = some J → wW g R I H → va_S (· ∈ g.L) s.heap H locs → lv_has ls 6 [(0, .ref a0), (1, .int x1), (2, .ref a2), (3, .int x3), (4, .int x4)] → W p l e { frames := 4, cells := 0, slots := 0, locals := 90 } s m args below meth c H locs 0 0 (MQ below (Qu g R J) args s 0 0 (· ∈ g.L)) (F0 m 23 ls []) := by
  have ⟨hx, hb, hml, hr, hlk, hown, hall, hT, hK⟩ := cx
  induction f with
  | zero => intro a0 x1 a2 x3 x4 I H locs ls o0 o2 h; unfold B_Store_writeFirstEntries_23 at h; cases h
  | succ f ih =>
    intro a0 x1 a2 x3 x4 I H locs ls o0 o2 h hP hS hl
    unfold B_Store_writeFirstEntries_23 at h
    refine lv_iload hx hb d_Store_writeFirstEntries_23 (lv_at hl 4 rfl) ?_
    refine lv_iconst (v := 2) hx hb d_Store_writeFirstEntries_25 (by decide) ?_
    refine lv_icmp_ge hx hb d_Store_writeFirstEntries_26 rfl (fun hc => ?_) (fun hc => ?_)
    · replace h := i_pos hc h
      refine lv_aload_n hx hb d_Store_writeFirstEntries_73 rfl (lv_at hl 2 rfl) ?_
      refine lv_iload_n hx hb d_Store_writeFirstEntries_74 rfl (lv_at hl 3 rfl) ?_
      refine lv_iconst (v := 1) hx hb d_Store_writeFirstEntries_75 (by decide) ?_
      refine lv_icmp_ne hx hb d_Store_writeFirstEntries_76 rfl (fun hc => ?_) (fun hc => ?_)
      · replace h := i_neg hc h
        refine lv_iconst (v := 2) hx hb d_Store_writeFirstEntries_83 (by decide) ?_
        exact b_Store_writeFirstEntries_84 cx _ _ _ _ _ _ o2 h hP hS (lv_sub hl [] rfl)
      · replace h := i_pos hc h
        refine lv_iconst (v := 1) hx hb d_Store_writeFirstEntries_79 (by decide) ?_
        refine lv_goto hx hb d_Store_writeFirstEntries_80 rfl ?_
        exact b_Store_writeFirstEntries_84 cx _ _ _ _ _ _ o2 h hP hS (lv_sub hl [] rfl)
    · replace h := i_neg hc h
      refine lv_aload_n hx hb d_Store_writeFirstEntries_29 rfl (lv_at hl 0 rfl) ?_
      refine lv_iload hx hb d_Store_writeFirstEntries_30 (lv_at hl 4 rfl) ?_
      obtain ⟨v32, e32, h⟩ := ob_el h
      refine gg_Vi (As := [.int x4]) (rest := []) (ci := 4) (C := R_Store) (T := F_Store) (N := 4) ⟨hx, hb, hml, hown, hall⟩ (c_Store_readyNode l hT o0 e32) (cwV 1 hall (gV m_172 m_173 m_174 m_6 m_169) rfl rfl rfl (by decide +kernel) ⟨Nat.le_of_ble_eq_true rfl, Nat.le_of_ble_eq_true rfl⟩) hK hP hS o0.1 (wE_4 o0.2) rfl rfl hl.1 rfl (Nat.le_of_ble_eq_true rfl) d_Store_writeFirstEntries_32 (fun H locs hP hS => ?_)
      refine lv_istore (lv' := [(5, .int v32), (0, .ref a0), (1, .int x1), (2, .ref a2), (3, .int x3), (4, .int x4)]) hx hb d_Store_writeFirstEntries_35 hl (Nat.le_of_ble_eq_true rfl) rfl (fun ls hl => ?_)
      refine lv_aload_n hx hb d_Store_writeFirstEntries_37 rfl (lv_at hl 3 rfl) ?_
      refine lv_iload hx hb d_Store_writeFirstEntries_38 (lv_at hl 5 rfl) ?_
      obtain ⟨v40, e40, h⟩ := ob_el h
      refine gg_Vi (As := [.int x4]) (rest := []) (ci := 3) (C := R_Txn) (T := F_Txn) (N := 5) ⟨hx, hb, hml, hown, hall⟩ (c_Txn_usesGroup l hT o2 e40) (cwV 1 hall (gV m_252 m_253 m_254 m_180 m_251) rfl rfl rfl (by decide +kernel) ⟨Nat.le_of_ble_eq_true rfl, Nat.le_of_ble_eq_true rfl⟩) hK hP hS o2.1 (wE_3 o2.2) rfl rfl hl.1 rfl (Nat.le_of_ble_eq_true rfl) d_Store_writeFirstEntries_40 (fun H locs hP hS => ?_)
      refine lv_if_eq hx hb d_Store_writeFirstEntries_43 rfl (fun hc => ?_) (fun hc => ?_)
      · replace h := i_pos hc h
        exact b_Store_writeFirstEntries_67 cx ih _ _ _ _ _ _ _ _ _ o0 o2 h hP hS (lv_sub hl [1, 2, 3, 4, 5] rfl)
      · replace h := i_neg hc h
        refine lv_iload hx hb d_Store_writeFirstEntries_46 (lv_at hl 0 rfl) ?_
        refine lv_iconst (v := (-1)) hx hb d_Store_writeFirstEntries_48 (by decide) ?_
        refine lv_icmp_eq hx hb d_Store_writeFirstEntries_49 rfl (fun hc => ?_) (fun hc => ?_)
        · replace h := i_pos hc h
          exact b_Store_writeFirstEntries_67 cx ih _ _ _ _ _ _ _ _ _ o0 o2 h hP hS (lv_sub hl [1, 2, 3, 4, 5] rfl)
        · replace h := i_neg hc h
          refine lv_aload_n hx hb d_Store_writeFirstEntries_52 rfl (lv_at hl 1 rfl) ?_
          refine gg_get (C := R_Store) (T := F_Store) (N := 4) (ci := 4) hx hb hall i_Store hown hK hP o0.1 (wE_4 o0.2) rfl 1 (by decide) (hall _ m_8) (fun _ h9 => h9) rfl d_Store_writeFirstEntries_53 ?_
          have o_53 : okA g 8 6 (R a0 1) := ty_Store_1 hT o0
          refine lv_iload hx hb d_Store_writeFirstEntries_56 (lv_at hl 0 rfl) ?_
          obtain ⟨hi58, h⟩ := chk_el h
          refine gg_nald hx hb hK hP o_53 hi58 d_Store_writeFirstEntries_58 ?_
          have o_58 : okA g 2 0 (R (R a0 1) v32.toNatClampNeg) := ty_8 hT o_53 _
          refine lv_iload_n hx hb d_Store_writeFirstEntries_59 rfl (lv_at hl 4 rfl) ?_
          refine lv_iload_n hx hb d_Store_writeFirstEntries_60 rfl (lv_at hl 2 rfl) ?_
          refine lv_iconst (v := (-1)) hx hb d_Store_writeFirstEntries_61 (by decide) ?_
          refine lv_iconst (v := 0) hx hb d_Store_writeFirstEntries_62 (by decide) ?_
          obtain ⟨v63, I63, e63, h⟩ := ob2_el h
          refine gg_Vi (As := [.int x3, .int x1, .int (-1 : Int32), .int (0 : Int32)]) (rest := []) (ci := 2) (C := R_Node) (T := F_Node) (N := 10) ⟨hx, hb, hml, hown, hall⟩ (c_Node_put l hT o_58 e63) (cwV 4 hall (gV m_110 m_111 m_112 m_48 m_100) rfl rfl rfl (by decide +kernel) ⟨Nat.le_of_ble_eq_true rfl, Nat.le_of_ble_eq_true rfl⟩) hK hP hS o_58.1 (wE_2 o_58.2) rfl rfl hl.1 rfl (Nat.le_of_ble_eq_true rfl) d_Store_writeFirstEntries_63 (fun H locs hP hS => ?_)
          refine lv_pop hx hb d_Store_writeFirstEntries_66 rfl ?_
          exact b_Store_writeFirstEntries_67 cx ih _ _ _ _ _ _ _ _ _ o0 o2 h hP hS (lv_sub hl [1, 2, 3, 4, 5] rfl)
def B_Store_writeFirstEntries_19 (R : Nat → Nat → Nat) (a0 : Nat) (x1 : Int32) (a2 : Nat) (t0 : Int32) (I : St) : Option St := B_Store_writeFirstEntries_23 R 100 a0 x1 a2 t0 (0 : Int32) I
set_option maxHeartbeats 4000000 in
set_option maxRecDepth 100000 in
theorem b_Store_writeFirstEntries_19 {p : Program} {l : Launch} {e : Env} {s : State} {m : MethodId} {args : Array Value} {below : List Frame} {meth : Method} {c : Code} {g : Sg} {R : Nat → Nat → Nat} {J : St} (cx : Cx p s m args meth c g R R_Store b_Store_writeFirstEntries 6 none) : ∀ (a0 : Nat) (x1 : Int32) (a2 : Nat) (t0 : Int32) (I : St) (H : Heap) (locs : List Loc) (ls : Array Slot), okA g 4 0 a0 → okA g 3 0 a2 → B_Store_writeFirstEntries_19 R a0 x1 a2 t0 I = some J → wW g R I H → va_S (· ∈ g.L) s.heap H locs → lv_has ls 6 [(0, .ref a0), (1, .int x1), (2, .ref a2)] → W p l e { frames := 4, cells := 0, slots := 0, locals := 90 } s m args below meth c H locs 0 0 (MQ below (Qu g R J) args s 0 0 (· ∈ g.L)) (F0 m 19 ls [.int t0]) := by
  have ⟨hx, hb, hml, hr, hlk, hown, hall, hT, hK⟩ := cx
  intro a0 x1 a2 t0 I H locs ls o0 o2 h hP hS hl
  unfold B_Store_writeFirstEntries_19 at h
  refine lv_istore_n (lv' := [(3, .int t0), (0, .ref a0), (1, .int x1), (2, .ref a2)]) hx hb d_Store_writeFirstEntries_19 rfl hl (Nat.le_of_ble_eq_true rfl) rfl (fun ls hl => ?_)
  refine lv_iconst (v := 0) hx hb d_Store_writeFirstEntries_20 (by decide) ?_
  refine lv_istore (lv' := [(4, .int (0 : Int32)), (3, .int t0), (0, .ref a0), (1, .int x1), (2, .ref a2)]) hx hb d_Store_writeFirstEntries_21 hl (Nat.le_of_ble_eq_true rfl) rfl (fun ls hl => ?_)
  exact b_Store_writeFirstEntries_23 cx 100 _ _ _ _ _ _ _ _ _ o0 o2 h hP hS (lv_sub hl [2, 3, 4, 1, 0] rfl)
def F_Store_writeFirstEntries (R : Nat → Nat → Nat) (a0 : Nat) (x1 : Int32) (I : St) : Option St := (chk x1 16 ((ob (F_Txn_usesBothGroups R (R (R a0 2) x1.toNatClampNeg) I) (fun v8 => (if v8 = 0 then B_Store_writeFirstEntries_19 R a0 x1 (R (R a0 2) x1.toNatClampNeg) (2 : Int32) I else B_Store_writeFirstEntries_19 R a0 x1 (R (R a0 2) x1.toNatClampNeg) (1 : Int32) I)))))
set_option maxHeartbeats 4000000 in
set_option maxRecDepth 100000 in
theorem c_Store_writeFirstEntries (l : Launch) {g : Sg} {R : Nat → Nat → Nat} (hT : Ty g R) {a0 : Nat} (o0 : okA g 4 0 a0) {x1 : Int32} {I : St} {J : St} (h : F_Store_writeFirstEntries R a0 x1 I = some J) : Ctv l g R y_Store_writeFirstEntries w_Store_writeFirstEntries 4 90 [.ref a0, .int x1] I J := by
  unfold Ctv
  refine Met.ofW (cc := b_Store_writeFirstEntries) (maxL := 6) (ret := none) (by decide) rfl ?_
  intro p e s m args below meth c s₁ B hml hv
  obtain ⟨rfl, hP, hK⟩ := hv
  have hts := atoms_spec (ws := w_Store_writeFirstEntries) B.pre
  have hall : ∀ w ∈ w_all, w.before _ s = true := fun w hw => hts w (List.mem_cons_of_mem _ hw)
  have hown : s.vm.findClass R_Store = some m.cls := findClass_of_methodNamed B.named
  have hx := B.exec
  have hb := B.bytes
  have hr := B.returns
  have hlk := B.notSynchronized
  have cx : Cx p s m _ meth c g R R_Store b_Store_writeFirstEntries 6 none := ⟨hx, hb, hml, hr, hlk, hown, hall, hT, hK⟩
  have hl := lv_entry ([.ref a0, .int x1]) (n := 6) (Nat.le_of_ble_eq_true rfl)
  rw [lg_entry_eq]
  generalize (lg_sl ([.ref a0, .int x1]) ++ List.replicate (6 - (lg_sl ([.ref a0, .int x1])).length) Slot.unset).toArray = ls at hl ⊢
  have hl : lv_has ls 6 [(0, .ref a0), (1, .int x1)] := hl
  have hS : va_S (· ∈ g.L) s.heap s.heap [] := va_S.rf
  unfold F_Store_writeFirstEntries at h
  refine lv_aload_n hx hb d_Store_writeFirstEntries_0 rfl (lv_at hl 0 rfl) ?_
  refine gg_get (C := R_Store) (T := F_Store) (N := 4) (ci := 4) hx hb hall i_Store hown hK hP o0.1 (wE_4 o0.2) rfl 2 (by decide) (hall _ m_202) (fun _ h9 => h9) rfl d_Store_writeFirstEntries_1 ?_
  have o_1 : okA g 9 16 (R a0 2) := ty_Store_2 hT o0
  refine lv_iload_n hx hb d_Store_writeFirstEntries_4 rfl (lv_at hl 1 rfl) ?_
  obtain ⟨hi5, h⟩ := chk_el h
  refine gg_tald hx hb hK hP o_1 hi5 d_Store_writeFirstEntries_5 ?_
  have o_5 : okA g 3 0 (R (R a0 2) x1.toNatClampNeg) := ty_9 hT o_1 _
  refine lv_astore_n (lv' := [(2, .ref (R (R a0 2) x1.toNatClampNeg)), (0, .ref a0), (1, .int x1)]) hx hb d_Store_writeFirstEntries_6 rfl hl (Nat.le_of_ble_eq_true rfl) rfl (fun ls hl => ?_)
  refine lv_aload_n hx hb d_Store_writeFirstEntries_7 rfl (lv_at hl 0 rfl) ?_
  obtain ⟨v8, e8, h⟩ := ob_el h
  refine gg_Vi (As := []) (rest := []) (ci := 3) (C := R_Txn) (T := F_Txn) (N := 5) ⟨hx, hb, hml, hown, hall⟩ (c_Txn_usesBothGroups l hT o_5 e8) (cwV 0 hall (gV m_272 m_273 m_274 m_180 m_271) rfl rfl rfl (by decide +kernel) ⟨Nat.le_of_ble_eq_true rfl, Nat.le_of_ble_eq_true rfl⟩) hK hP hS o_5.1 (wE_3 o_5.2) rfl rfl hl.1 rfl (Nat.le_of_ble_eq_true rfl) d_Store_writeFirstEntries_8 (fun H locs hP hS => ?_)
  refine lv_if_eq hx hb d_Store_writeFirstEntries_11 rfl (fun hc => ?_) (fun hc => ?_)
  · replace h := i_pos hc h
    refine lv_iconst (v := 2) hx hb d_Store_writeFirstEntries_18 (by decide) ?_
    exact b_Store_writeFirstEntries_19 cx _ _ _ _ _ _ _ _ o0 o_5 h hP hS (lv_sub hl [1, 2, 0] rfl)
  · replace h := i_neg hc h
    refine lv_iconst (v := 1) hx hb d_Store_writeFirstEntries_14 (by decide) ?_
    refine lv_goto hx hb d_Store_writeFirstEntries_15 rfl ?_
    exact b_Store_writeFirstEntries_19 cx _ _ _ _ _ _ _ _ o0 o_5 h hP hS (lv_sub hl [1, 2, 0] rfl)
end
