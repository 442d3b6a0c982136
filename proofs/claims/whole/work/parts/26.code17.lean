section
abbrev b_Model_alike : ByteArray := prog_7_method_25_code
def y_Model_alike : MethodName := ⟨"StampedStoreModel", "alike", "(II)I"⟩
def w_Model_alike : List Cond := .code y_Model_alike b_Model_alike 4 (some .int) :: w_all
theorem d_Model_alike_0 : decode b_Model_alike 0 = .ok (.iconst 0, 1) := by decide +kernel
theorem d_Model_alike_1 : decode b_Model_alike 1 = .ok (.istore_n 3, 1) := by decide +kernel
theorem d_Model_alike_2 : decode b_Model_alike 2 = .ok (.iload_n 3, 1) := by decide +kernel
theorem d_Model_alike_3 : decode b_Model_alike 3 = .ok (.aload_n 0, 1) := by decide +kernel
theorem d_Model_alike_4 : decode b_Model_alike 4 = .ok (.getfield 32, 3) := by decide +kernel
theorem d_Model_alike_7 : decode b_Model_alike 7 = .ok (.iload_n 1, 1) := by decide +kernel
theorem d_Model_alike_8 : decode b_Model_alike 8 = .ok (.iaload, 1) := by decide +kernel
theorem d_Model_alike_9 : decode b_Model_alike 9 = .ok (.if_icmp .ge 44, 3) := by decide +kernel
theorem d_Model_alike_12 : decode b_Model_alike 12 = .ok (.iload_n 3, 1) := by decide +kernel
theorem d_Model_alike_13 : decode b_Model_alike 13 = .ok (.aload_n 0, 1) := by decide +kernel
theorem d_Model_alike_14 : decode b_Model_alike 14 = .ok (.getfield 32, 3) := by decide +kernel
theorem d_Model_alike_17 : decode b_Model_alike 17 = .ok (.iload_n 2, 1) := by decide +kernel
theorem d_Model_alike_18 : decode b_Model_alike 18 = .ok (.iaload, 1) := by decide +kernel
theorem d_Model_alike_19 : decode b_Model_alike 19 = .ok (.if_icmp .ge 34, 3) := by decide +kernel
theorem d_Model_alike_22 : decode b_Model_alike 22 = .ok (.aload_n 0, 1) := by decide +kernel
theorem d_Model_alike_23 : decode b_Model_alike 23 = .ok (.getfield 38, 3) := by decide +kernel
theorem d_Model_alike_26 : decode b_Model_alike 26 = .ok (.bipush 60, 2) := by decide +kernel
theorem d_Model_alike_28 : decode b_Model_alike 28 = .ok (.iload_n 1, 1) := by decide +kernel
theorem d_Model_alike_29 : decode b_Model_alike 29 = .ok (.imul, 1) := by decide +kernel
theorem d_Model_alike_30 : decode b_Model_alike 30 = .ok (.iload_n 3, 1) := by decide +kernel
theorem d_Model_alike_31 : decode b_Model_alike 31 = .ok (.iadd, 1) := by decide +kernel
theorem d_Model_alike_32 : decode b_Model_alike 32 = .ok (.iaload, 1) := by decide +kernel
theorem d_Model_alike_33 : decode b_Model_alike 33 = .ok (.aload_n 0, 1) := by decide +kernel
theorem d_Model_alike_34 : decode b_Model_alike 34 = .ok (.getfield 38, 3) := by decide +kernel
theorem d_Model_alike_37 : decode b_Model_alike 37 = .ok (.bipush 60, 2) := by decide +kernel
theorem d_Model_alike_39 : decode b_Model_alike 39 = .ok (.iload_n 2, 1) := by decide +kernel
theorem d_Model_alike_40 : decode b_Model_alike 40 = .ok (.imul, 1) := by decide +kernel
theorem d_Model_alike_41 : decode b_Model_alike 41 = .ok (.iload_n 3, 1) := by decide +kernel
theorem d_Model_alike_42 : decode b_Model_alike 42 = .ok (.iadd, 1) := by decide +kernel
theorem d_Model_alike_43 : decode b_Model_alike 43 = .ok (.iaload, 1) := by decide +kernel
theorem d_Model_alike_44 : decode b_Model_alike 44 = .ok (.if_icmp .ne 9, 3) := by decide +kernel
theorem d_Model_alike_47 : decode b_Model_alike 47 = .ok (.iinc 3 1, 3) := by decide +kernel
theorem d_Model_alike_50 : decode b_Model_alike 50 = .ok (.goto (-48), 3) := by decide +kernel
theorem d_Model_alike_53 : decode b_Model_alike 53 = .ok (.iload_n 3, 1) := by decide +kernel
theorem d_Model_alike_54 : decode b_Model_alike 54 = .ok (.ireturn, 1) := by decide +kernel
def B_Model_alike_53 (R : Nat → Nat → Nat) (I : St) (x3 : Int32) : Option Int32 := some x3
set_option maxHeartbeats 4000000 in
set_option maxRecDepth 100000 in
theorem b_Model_alike_53 {p : Program} {l : Launch} {e : Env} {s : State} {m : MethodId} {args : Array Value} {below : List Frame} {meth : Method} {c : Code} {g : Sg} {R : Nat → Nat → Nat} {I : St} {v : Int32} (cx : Cx p s m args meth c g R R_Model b_Model_alike 4 (some .int)) : ∀ (x3 : Int32) (H : Heap) (locs : List Loc) (ls : Array Slot), B_Model_alike_53 R I x3 = some v → wW g R I H → va_S (· ∈ g.L) s.heap H locs → lv_has ls 4 [(3, .int x3)] → W p l e { frames := 0, cells := 0, slots := 0, locals := 0 } s m args below meth c H locs 0 0 (MQ below (Qi g R v I) args s 0 0 (· ∈ g.L)) (F0 m 53 ls []) := by
  have ⟨hx, hb, hml, hr, hlk, hown, hall, hT, hK⟩ := cx
  intro x3 H locs ls h hP hS hl
  unfold B_Model_alike_53 at h
  refine lv_iload_n hx hb d_Model_alike_53 rfl (lv_at hl 0 rfl) ?_
  obtain rfl := Option.some.inj h
  exact gg_iret hx hb hr hlk hK hP hS d_Model_alike_54
def B_Model_alike_2 (R : Nat → Nat → Nat) (I : St) : Nat → Nat → Int32 → Int32 → Int32 → Option Int32
  | 0, _, _, _, _ => none
  | f + 1, a0, x1, x2, x3 => (chk x1 6 ((if (I (R a0 9) x1.toNatClampNeg) ≤ x3 then B_Model_alike_53 R I x3 else (chk x2 6 ((if (I (R a0 9) x2.toNatClampNeg) ≤ x3 then B_Model_alike_53 R I x3 else (chk (((60 : Int32) * x1) + x3) 360 ((chk (((60 : Int32) * x2) + x3) 360 ((if (I (R a0 11) (((60 : Int32) * x1) + x3).toNatClampNeg) = (I (R a0 11) (((60 : Int32) * x2) + x3).toNatClampNeg) then B_Model_alike_2 R I f a0 x1 x2 (x3 + 1) else B_Model_alike_53 R I x3)))))))))))
set_option maxHeartbeats 4000000 in
set_option maxRecDepth 100000 in
theorem b_Model_alike_2 {p : Program} {l : Launch} {e : Env} {s : State} {m : MethodId} {args : Array Value} {below : List Frame} {meth : Method} {c : Code} {g : Sg} {R : Nat → Nat → Nat} {I : St} {v : Int32} (cx : Cx p s m args meth c g R R_Model b_Model_alike 4 (some .int)) (f : Nat) : ∀ (a0 : Nat) (x1 : Int32) (x2 : Int32) (x3 : Int32) (H : Heap) (locs : List Loc) (ls : Array Slot), okA g 5 0 a0 → B_Model_alike_2 R I f a0 x1 x2 x3 = some v → wW g R I H → va_S (· ∈ g.L) s.heap H locs → lv_has ls 4 [(0, .ref a0), (1, .int x1), (2, .int x2), (3, .int x3)] → W p l e { frames := 0, cells := 0, slots := 0, locals := 0 } s m args below meth c H locs 0 0 (MQ below (Qi g R v I) args s 0 0 (· ∈ g.L)) (F0 m 2 ls []) := by
  have ⟨hx, hb, hml, hr, hlk, hown, hall, hT, hK⟩ := cx
  induction f with
  | zero => intro a0 x1 x2 x3 H locs ls o0 h; unfold B_Model_alike_2 at h; cases h
  | succ f ih =>
    intro a0 x1 x2 x3 H locs ls o0 h hP hS hl
    unfold B_Model_alike_2 at h
    refine lv_iload_n hx hb d_Model_alike_2 rfl (lv_at hl 3 rfl) ?_
    refine lv_aload_n hx hb d_Model_alike_3 rfl (lv_at hl 0 rfl) ?_
    refine gg_get (C := R_Model) (T := F_Model) (N := 23) (ci := 5) hx hb hall i_Model hown hK hP o0.1 (wE_5 o0.2) rfl 9 (by decide) (hall _ m_366) (fun _ h9 => h9) rfl d_Model_alike_4 ?_
    have o_4 : okA g 6 6 (R a0 9) := ty_Model_9 hT o0
    refine lv_iload_n hx hb d_Model_alike_7 rfl (lv_at hl 1 rfl) ?_
    obtain ⟨hi8, h⟩ := chk_el h
    refine gg_iald hx hb hK hP o_4 hi8 d_Model_alike_8 ?_
    refine lv_icmp_ge hx hb d_Model_alike_9 rfl (fun hc => ?_) (fun hc => ?_)
    · replace h := i_pos hc h
      exact b_Model_alike_53 cx _ _ _ _ h hP hS (lv_sub hl [3] rfl)
    · replace h := i_neg hc h
      refine lv_iload_n hx hb d_Model_alike_12 rfl (lv_at hl 3 rfl) ?_
      refine lv_aload_n hx hb d_Model_alike_13 rfl (lv_at hl 0 rfl) ?_
      refine gg_get (C := R_Model) (T := F_Model) (N := 23) (ci := 5) hx hb hall i_Model hown hK hP o0.1 (wE_5 o0.2) rfl 9 (by decide) (hall _ m_366) (fun _ h9 => h9) rfl d_Model_alike_14 ?_
      have o_14 : okA g 6 6 (R a0 9) := ty_Model_9 hT o0
      refine lv_iload_n hx hb d_Model_alike_17 rfl (lv_at hl 2 rfl) ?_
      obtain ⟨hi18, h⟩ := chk_el h
      refine gg_iald hx hb hK hP o_14 hi18 d_Model_alike_18 ?_
      refine lv_icmp_ge hx hb d_Model_alike_19 rfl (fun hc => ?_) (fun hc => ?_)
      · replace h := i_pos hc h
        exact b_Model_alike_53 cx _ _ _ _ h hP hS (lv_sub hl [3] rfl)
      · replace h := i_neg hc h
        refine lv_aload_n hx hb d_Model_alike_22 rfl (lv_at hl 0 rfl) ?_
        refine gg_get (C := R_Model) (T := F_Model) (N := 23) (ci := 5) hx hb hall i_Model hown hK hP o0.1 (wE_5 o0.2) rfl 11 (by decide) (hall _ m_353) (fun _ h9 => h9) rfl d_Model_alike_23 ?_
        have o_23 : okA g 6 360 (R a0 11) := ty_Model_11 hT o0
        refine lv_bipush (v := 60) hx hb d_Model_alike_26 (by decide) ?_
        refine lv_iload_n hx hb d_Model_alike_28 rfl (lv_at hl 1 rfl) ?_
        refine lv_imul hx hb d_Model_alike_29 ?_
        refine lv_iload_n hx hb d_Model_alike_30 rfl (lv_at hl 3 rfl) ?_
        refine lv_iadd hx hb d_Model_alike_31 ?_
        obtain ⟨hi32, h⟩ := chk_el h
        refine gg_iald hx hb hK hP o_23 hi32 d_Model_alike_32 ?_
        refine lv_aload_n hx hb d_Model_alike_33 rfl (lv_at hl 0 rfl) ?_
        refine gg_get (C := R_Model) (T := F_Model) (N := 23) (ci := 5) hx hb hall i_Model hown hK hP o0.1 (wE_5 o0.2) rfl 11 (by decide) (hall _ m_353) (fun _ h9 => h9) rfl d_Model_alike_34 ?_
        have o_34 : okA g 6 360 (R a0 11) := ty_Model_11 hT o0
        refine lv_bipush (v := 60) hx hb d_Model_alike_37 (by decide) ?_
        refine lv_iload_n hx hb d_Model_alike_39 rfl (lv_at hl 2 rfl) ?_
        refine lv_imul hx hb d_Model_alike_40 ?_
        refine lv_iload_n hx hb d_Model_alike_41 rfl (lv_at hl 3 rfl) ?_
        refine lv_iadd hx hb d_Model_alike_42 ?_
        obtain ⟨hi43, h⟩ := chk_el h
        refine gg_iald hx hb hK hP o_34 hi43 d_Model_alike_43 ?_
        refine lv_icmp_ne hx hb d_Model_alike_44 rfl (fun hc => ?_) (fun hc => ?_)
        · replace h := i_neg hc h
          exact b_Model_alike_53 cx _ _ _ _ h hP hS (lv_sub hl [3] rfl)
        · replace h := i_pos hc h
          refine lv_iinc (k := 3) (v := (x3 + 1)) (lv' := [(3, .int (x3 + 1)), (0, .ref a0), (1, .int x1), (2, .int x2)]) hx hb d_Model_alike_47 hl rfl (by rw [show Int32.ofInt 1 = (1 : Int32) from by decide]) (Nat.le_of_ble_eq_true rfl) rfl (fun ls hl => ?_)
          refine lv_goto hx hb d_Model_alike_50 rfl ?_
          exact ih _ _ _ _ _ _ _ o0 h hP hS (lv_sub hl [1, 2, 3, 0] rfl)
def F_Model_alike (R : Nat → Nat → Nat) (a0 : Nat) (x1 : Int32) (x2 : Int32) (I : St) : Option Int32 := B_Model_alike_2 R I 100 a0 x1 x2 (0 : Int32)
set_option maxHeartbeats 4000000 in
set_option maxRecDepth 100000 in
theorem c_Model_alike (l : Launch) {g : Sg} {R : Nat → Nat → Nat} (hT : Ty g R) {a0 : Nat} (o0 : okA g 5 0 a0) {x1 : Int32} {x2 : Int32} {I : St} {v : Int32} (h : F_Model_alike R a0 x1 x2 I = some v) : Cti l g R y_Model_alike w_Model_alike 0 0 [.ref a0, .int x1, .int x2] I v I := by
  unfold Cti
  refine Met.ofW (cc := b_Model_alike) (maxL := 4) (ret := (some .int)) (by decide) rfl ?_
  intro p e s m args below meth c s₁ B hml hv
  obtain ⟨rfl, hP, hK⟩ := hv
  have hts := atoms_spec (ws := w_Model_alike) B.pre
  have hall : ∀ w ∈ w_all, w.before _ s = true := fun w hw => hts w (List.mem_cons_of_mem _ hw)
  have hown : s.vm.findClass R_Model = some m.cls := findClass_of_methodNamed B.named
  have hx := B.exec
  have hb := B.bytes
  have hr := B.returns
  have hlk := B.notSynchronized
  have cx : Cx p s m _ meth c g R R_Model b_Model_alike 4 (some .int) := ⟨hx, hb, hml, hr, hlk, hown, hall, hT, hK⟩
  have hl := lv_entry ([.ref a0, .int x1, .int x2]) (n := 4) (Nat.le_of_ble_eq_true rfl)
  rw [lg_entry_eq]
  generalize (lg_sl ([.ref a0, .int x1, .int x2]) ++ List.replicate (4 - (lg_sl ([.ref a0, .int x1, .int x2])).length) Slot.unset).toArray = ls at hl ⊢
  have hl : lv_has ls 4 [(0, .ref a0), (1, .int x1), (2, .int x2)] := hl
  have hS : va_S (· ∈ g.L) s.heap s.heap [] := va_S.rf
  unfold F_Model_alike at h
  refine lv_iconst (v := 0) hx hb d_Model_alike_0 (by decide) ?_
  refine lv_istore_n (lv' := [(3, .int (0 : Int32)), (0, .ref a0), (1, .int x1), (2, .int x2)]) hx hb d_Model_alike_1 rfl hl (Nat.le_of_ble_eq_true rfl) rfl (fun ls hl => ?_)
  exact b_Model_alike_2 cx 100 _ _ _ _ _ _ _ o0 h hP hS (lv_sub hl [1, 2, 3, 0] rfl)
abbrev b_Model_copies : ByteArray := prog_7_method_26_code
def y_Model_copies : MethodName := ⟨"StampedStoreModel", "copies", "(II)I"⟩
def w_Model_copies : List Cond := .code y_Model_copies b_Model_copies 5 (some .int) :: w_all
theorem d_Model_copies_0 : decode b_Model_copies 0 = .ok (.iconst 0, 1) := by decide +kernel
theorem d_Model_copies_1 : decode b_Model_copies 1 = .ok (.istore_n 3, 1) := by decide +kernel
theorem d_Model_copies_2 : decode b_Model_copies 2 = .ok (.iload_n 1, 1) := by decide +kernel
theorem d_Model_copies_3 : decode b_Model_copies 3 = .ok (.iconst 3, 1) := by decide +kernel
theorem d_Model_copies_4 : decode b_Model_copies 4 = .ok (.idiv, 1) := by decide +kernel
theorem d_Model_copies_5 : decode b_Model_copies 5 = .ok (.iconst 3, 1) := by decide +kernel
theorem d_Model_copies_6 : decode b_Model_copies 6 = .ok (.imul, 1) := by decide +kernel
theorem d_Model_copies_7 : decode b_Model_copies 7 = .ok (.istore 4, 2) := by decide +kernel
theorem d_Model_copies_9 : decode b_Model_copies 9 = .ok (.iload 4, 2) := by decide +kernel
theorem d_Model_copies_11 : decode b_Model_copies 11 = .ok (.iload_n 1, 1) := by decide +kernel
theorem d_Model_copies_12 : decode b_Model_copies 12 = .ok (.iconst 3, 1) := by decide +kernel
theorem d_Model_copies_13 : decode b_Model_copies 13 = .ok (.idiv, 1) := by decide +kernel
theorem d_Model_copies_14 : decode b_Model_copies 14 = .ok (.iconst 3, 1) := by decide +kernel
theorem d_Model_copies_15 : decode b_Model_copies 15 = .ok (.imul, 1) := by decide +kernel
theorem d_Model_copies_16 : decode b_Model_copies 16 = .ok (.iconst 3, 1) := by decide +kernel
theorem d_Model_copies_17 : decode b_Model_copies 17 = .ok (.iadd, 1) := by decide +kernel
theorem d_Model_copies_18 : decode b_Model_copies 18 = .ok (.if_icmp .ge 54, 3) := by decide +kernel
theorem d_Model_copies_21 : decode b_Model_copies 21 = .ok (.iload_n 3, 1) := by decide +kernel
theorem d_Model_copies_22 : decode b_Model_copies 22 = .ok (.iload_n 2, 1) := by decide +kernel
theorem d_Model_copies_23 : decode b_Model_copies 23 = .ok (.aload_n 0, 1) := by decide +kernel
theorem d_Model_copies_24 : decode b_Model_copies 24 = .ok (.getfield 32, 3) := by decide +kernel
theorem d_Model_copies_27 : decode b_Model_copies 27 = .ok (.iload 4, 2) := by decide +kernel
theorem d_Model_copies_29 : decode b_Model_copies 29 = .ok (.iaload, 1) := by decide +kernel
theorem d_Model_copies_30 : decode b_Model_copies 30 = .ok (.if_icmp .ge 33, 3) := by decide +kernel
theorem d_Model_copies_33 : decode b_Model_copies 33 = .ok (.aload_n 0, 1) := by decide +kernel
theorem d_Model_copies_34 : decode b_Model_copies 34 = .ok (.getfield 38, 3) := by decide +kernel
theorem d_Model_copies_37 : decode b_Model_copies 37 = .ok (.bipush 60, 2) := by decide +kernel
theorem d_Model_copies_39 : decode b_Model_copies 39 = .ok (.iload 4, 2) := by decide +kernel
theorem d_Model_copies_41 : decode b_Model_copies 41 = .ok (.imul, 1) := by decide +kernel
theorem d_Model_copies_42 : decode b_Model_copies 42 = .ok (.iload_n 2, 1) := by decide +kernel
theorem d_Model_copies_43 : decode b_Model_copies 43 = .ok (.iadd, 1) := by decide +kernel
theorem d_Model_copies_44 : decode b_Model_copies 44 = .ok (.iaload, 1) := by decide +kernel
theorem d_Model_copies_45 : decode b_Model_copies 45 = .ok (.aload_n 0, 1) := by decide +kernel
theorem d_Model_copies_46 : decode b_Model_copies 46 = .ok (.getfield 38, 3) := by decide +kernel
theorem d_Model_copies_49 : decode b_Model_copies 49 = .ok (.bipush 60, 2) := by decide +kernel
theorem d_Model_copies_51 : decode b_Model_copies 51 = .ok (.iload_n 1, 1) := by decide +kernel
theorem d_Model_copies_52 : decode b_Model_copies 52 = .ok (.imul, 1) := by decide +kernel
theorem d_Model_copies_53 : decode b_Model_copies 53 = .ok (.iload_n 2, 1) := by decide +kernel
theorem d_Model_copies_54 : decode b_Model_copies 54 = .ok (.iadd, 1) := by decide +kernel
theorem d_Model_copies_55 : decode b_Model_copies 55 = .ok (.iaload, 1) := by decide +kernel
theorem d_Model_copies_56 : decode b_Model_copies 56 = .ok (.if_icmp .ne 7, 3) := by decide +kernel
theorem d_Model_copies_59 : decode b_Model_copies 59 = .ok (.iconst 1, 1) := by decide +kernel
theorem d_Model_copies_60 : decode b_Model_copies 60 = .ok (.goto 4, 3) := by decide +kernel
theorem d_Model_copies_63 : decode b_Model_copies 63 = .ok (.iconst 0, 1) := by decide +kernel
theorem d_Model_copies_64 : decode b_Model_copies 64 = .ok (.iadd, 1) := by decide +kernel
theorem d_Model_copies_65 : decode b_Model_copies 65 = .ok (.istore_n 3, 1) := by decide +kernel
theorem d_Model_copies_66 : decode b_Model_copies 66 = .ok (.iinc 4 1, 3) := by decide +kernel
theorem d_Model_copies_69 : decode b_Model_copies 69 = .ok (.goto (-60), 3) := by decide +kernel
theorem d_Model_copies_72 : decode b_Model_copies 72 = .ok (.iload_n 3, 1) := by decide +kernel
theorem d_Model_copies_73 : decode b_Model_copies 73 = .ok (.ireturn, 1) := by decide +kernel
def B_Model_copies_64 (R : Nat → Nat → Nat) (I : St) (k9 : Nat → Int32 → Int32 → Int32 → Int32 → Option Int32) (a0 : Nat) (x1 : Int32) (x2 : Int32) (x4 : Int32) (t0 : Int32) (t1 : Int32) : Option Int32 := k9 a0 x1 x2 (t0 + t1) (x4 + 1)
set_option maxHeartbeats 4000000 in
set_option maxRecDepth 100000 in
theorem b_Model_copies_64 {p : Program} {l : Launch} {e : Env} {s : State} {m : MethodId} {args : Array Value} {below : List Frame} {meth : Method} {c : Code} {g : Sg} {R : Nat → Nat → Nat} {I : St} {v : Int32} (cx : Cx p s m args meth c g R R_Model b_Model_copies 5 (some .int)) {k9 : Nat → Int32 → Int32 → Int32 → Int32 → Option Int32} (hk9 : ∀ (a0 : Nat) (x1 : Int32) (x2 : Int32) (x3 : Int32) (x4 : Int32) (H : Heap) (locs : List Loc) (ls : Array Slot), okA g 5 0 a0 → k9 a0 x1 x2 x3 x4 = some v → wW g R I H → va_S (· ∈ g.L) s.heap H locs → lv_has ls 5 [(0, .ref a0), (1, .int x1), (2, .int x2), (3, .int x3), (4, .int x4)] → W p l e { frames := 0, cells := 0, slots := 0, locals := 0 } s m args below meth c H locs 0 0 (MQ below (Qi g R v I) args s 0 0 (· ∈ g.L)) (F0 m 9 ls [])) : ∀ (a0 : Nat) (x1 : Int32) (x2 : Int32) (x4 : Int32) (t0 : Int32) (t1 : Int32) (H : Heap) (locs : List Loc) (ls : Array Slot), okA g 5 0 a0 → B_Model_copies_64 R I k9 a0 x1 x2 x4 t0 t1 = some v → wW g R I H → va_S (· ∈ g.L) s.heap H locs → lv_has ls 5 [(0, .ref a0), (1, .int x1), (2, .int x2), (4, .int x4)] → W p l e { frames := 0, cells := 0, slots := 0, locals := 0 } s m args below meth c H locs 0 0 (MQ below (Qi g R v I) args s 0 0 (· ∈ g.L)) (F0 m 64 ls [.int t1, .int t0]) := by
  have ⟨hx, hb, hml, hr, hlk, hown, hall, hT, hK⟩ := cx
  intro a0 x1 x2 x4 t0 t1 H locs ls o0 h hP hS hl
  unfold B_Model_copies_64 at h
  refine lv_iadd hx hb d_Model_copies_64 ?_
  refine lv_istore_n (lv' := [(3, .int (t0 + t1)), (0, .ref a0), (1, .int x1), (2, .int x2), (4, .int x4)]) hx hb d_Model_copies_65 rfl hl (Nat.le_of_ble_eq_true rfl) rfl (fun ls hl => ?_)
  refine lv_iinc (k := 4) (v := (x4 + 1)) (lv' := [(4, .int (x4 + 1)), (3, .int (t0 + t1)), (0, .ref a0), (1, .int x1), (2, .int x2)]) hx hb d_Model_copies_66 hl rfl (by rw [show Int32.ofInt 1 = (1 : Int32) from by decide]) (Nat.le_of_ble_eq_true rfl) rfl (fun ls hl => ?_)
  refine lv_goto hx hb d_Model_copies_69 rfl ?_
  exact hk9 _ _ _ _ _ _ _ _ o0 h hP hS (lv_sub hl [2, 3, 4, 1, 0] rfl)
def B_Model_copies_63 (R : Nat → Nat → Nat) (I : St) (k9 : Nat → Int32 → Int32 → Int32 → Int32 → Option Int32) (a0 : Nat) (x1 : Int32) (x2 : Int32) (x4 : Int32) (t0 : Int32) : Option Int32 := B_Model_copies_64 R I k9 a0 x1 x2 x4 t0 (0 : Int32)
set_option maxHeartbeats 4000000 in
set_option maxRecDepth 100000 in
theorem b_Model_copies_63 {p : Program} {l : Launch} {e : Env} {s : State} {m : MethodId} {args : Array Value} {below : List Frame} {meth : Method} {c : Code} {g : Sg} {R : Nat → Nat → Nat} {I : St} {v : Int32} (cx : Cx p s m args meth c g R R_Model b_Model_copies 5 (some .int)) {k9 : Nat → Int32 → Int32 → Int32 → Int32 → Option Int32} (hk9 : ∀ (a0 : Nat) (x1 : Int32) (x2 : Int32) (x3 : Int32) (x4 : Int32) (H : Heap) (locs : List Loc) (ls : Array Slot), okA g 5 0 a0 → k9 a0 x1 x2 x3 x4 = some v → wW g R I H → va_S (· ∈ g.L) s.heap H locs → lv_has ls 5 [(0, .ref a0), (1, .int x1), (2, .int x2), (3, .int x3), (4, .int x4)] → W p l e { frames := 0, cells := 0, slots := 0, locals := 0 } s m args below meth c H locs 0 0 (MQ below (Qi g R v I) args s 0 0 (· ∈ g.L)) (F0 m 9 ls [])) : ∀ (a0 : Nat) (x1 : Int32) (x2 : Int32) (x4 : Int32) (t0 : Int32) (H : Heap) (locs : List Loc) (ls : Array Slot), okA g 5 0 a0 → B_Model_copies_63 R I k9 a0 x1 x2 x4 t0 = some v → wW g R I H → va_S (· ∈ g.L) s.heap H locs → lv_has ls 5 [(0, .ref a0), (1, .int x1), (2, .int x2), (4, .int x4)] → W p l e { frames := 0, cells := 0, slots := 0, locals := 0 } s m args below meth c H locs 0 0 (MQ below (Qi g R v I) args s 0 0 (· ∈ g.L)) (F0 m 63 ls [.int t0]) := by
  have ⟨hx, hb, hml, hr, hlk, hown, hall, hT, hK⟩ := cx
  intro a0 x1 x2 x4 t0 H locs ls o0 h hP hS hl
  unfold B_Model_copies_63 at h
  refine lv_iconst (v := 0) hx hb d_Model_copies_63 (by decide) ?_
  exact b_Model_copies_64 cx hk9 _ _ _ _ _ _ _ _ _ o0 h hP hS (lv_sub hl [0, 1, 2, 3] rfl)
def B_Model_copies_9 (R : Nat → Nat → Nat) (I : St) : Nat → Nat → Int32 → Int32 → Int32 → Int32 → Option Int32
  | 0, _, _, _, _, _ => none
  | f + 1, a0, x1, x2, x3, x4 => (if (((x1 / (3 : Int32)) * (3 : Int32)) + (3 : Int32)) ≤ x4 then some x3 else (chk x4 6 ((if (I (R a0 9) x4.toNatClampNeg) ≤ x2 then B_Model_copies_63 R I (B_Model_copies_9 R I f) a0 x1 x2 x4 x3 else (chk (((60 : Int32) * x4) + x2) 360 ((chk (((60 : Int32) * x1) + x2) 360 ((if (I (R a0 11) (((60 : Int32) * x4) + x2).toNatClampNeg) = (I (R a0 11) (((60 : Int32) * x1) + x2).toNatClampNeg) then B_Model_copies_64 R I (B_Model_copies_9 R I f) a0 x1 x2 x4 x3 (1 : Int32) else B_Model_copies_63 R I (B_Model_copies_9 R I f) a0 x1 x2 x4 x3)))))))))
set_option maxHeartbeats 4000000 in
set_option maxRecDepth 100000 in
theorem b_Model_copies_9 {p : Program} {l : Launch} {e : Env} {s : State} {m : MethodId} {args : Array Value} {below : List Frame} {meth : Method} {c : Code} {g : Sg} {R : Nat → Nat → Nat} {I : St} {v : Int32} (cx : Cx p s m args meth c g R R_Model b_Model_copies 5 (some .int)) (f : Nat) : ∀ (a0 : Nat) (x1 : Int32) (x2 : Int32) (x3 : Int32) (x4 : Int32) (H : Heap) (locs : List Loc) (ls : Array Slot), okA g 5 0 a0 → B_Model_copies_9 R I f a0 x1 x2 x3 x4 = some v → wW g R I H → va_S (· ∈ g.L) s.heap H locs → lv_has ls 5 [(0, .ref a0), (1, .int x1), (2, .int x2), (3, .int x3), (4, .int x4)] → W p l e { frames := 0, cells := 0, slots := 0, locals := 0 } s m args below meth c H locs 0 0 (MQ below (Qi g R v I) args s 0 0 (· ∈ g.L)) (F0 m 9 ls []) := by
  have ⟨hx, hb, hml, hr, hlk, hown, hall, hT, hK⟩ := cx
  induction f with
  | zero => intro a0 x1 x2 x3 x4 H locs ls o0 h; unfold B_Model_copies_9 at h; cases h
  | succ f ih =>
    intro a0 x1 x2 x3 x4 H locs ls o0 h hP hS hl
    unfold B_Model_copies_9 at h
    refine lv_iload hx hb d_Model_copies_9 (lv_at hl 4 rfl) ?_
    refine lv_iload_n hx hb d_Model_copies_11 rfl (lv_at hl 1 rfl) ?_
    refine lv_iconst (v := 3) hx hb d_Model_copies_12 (by decide) ?_
    refine lv_idiv hx hb d_Model_copies_13 (by decide) ?_
    refine lv_iconst (v := 3) hx hb d_Model_copies_14 (by decide) ?_
    refine lv_imul hx hb d_Model_copies_15 ?_
    refine lv_iconst (v := 3) hx hb d_Model_copies_16 (by decide) ?_
    refine lv_iadd hx hb d_Model_copies_17 ?_
    refine lv_icmp_ge hx hb d_Model_copies_18 rfl (fun hc => ?_) (fun hc => ?_)
    · replace h := i_pos hc h
      refine lv_iload_n hx hb d_Model_copies_72 rfl (lv_at hl 3 rfl) ?_
      obtain rfl := Option.some.inj h
      exact gg_iret hx hb hr hlk hK hP hS d_Model_copies_73
    · replace h := i_neg hc h
      refine lv_iload_n hx hb d_Model_copies_21 rfl (lv_at hl 3 rfl) ?_
      refine lv_iload_n hx hb d_Model_copies_22 rfl (lv_at hl 2 rfl) ?_
      refine lv_aload_n hx hb d_Model_copies_23 rfl (lv_at hl 0 rfl) ?_
      refine gg_get (C := R_Model) (T := F_Model) (N := 23) (ci := 5) hx hb hall i_Model hown hK hP o0.1 (wE_5 o0.2) rfl 9 (by decide) (hall _ m_366) (fun _ h9 => h9) rfl d_Model_copies_24 ?_
      have o_24 : okA g 6 6 (R a0 9) := ty_Model_9 hT o0
      refine lv_iload hx hb d_Model_copies_27 (lv_at hl 4 rfl) ?_
      obtain ⟨hi29, h⟩ := chk_el h
      refine gg_iald hx hb hK hP o_24 hi29 d_Model_copies_29 ?_
      refine lv_icmp_ge hx hb d_Model_copies_30 rfl (fun hc => ?_) (fun hc => ?_)
      · replace h := i_pos hc h
        exact b_Model_copies_63 cx ih _ _ _ _ _ _ _ _ o0 h hP hS (lv_sub hl [0, 1, 2, 4] rfl)
      · replace h := i_neg hc h
        refine lv_aload_n hx hb d_Model_copies_33 rfl (lv_at hl 0 rfl) ?_
        refine gg_get (C := R_Model) (T := F_Model) (N := 23) (ci := 5) hx hb hall i_Model hown hK hP o0.1 (wE_5 o0.2) rfl 11 (by decide) (hall _ m_353) (fun _ h9 => h9) rfl d_Model_copies_34 ?_
        have o_34 : okA g 6 360 (R a0 11) := ty_Model_11 hT o0
        refine lv_bipush (v := 60) hx hb d_Model_copies_37 (by decide) ?_
        refine lv_iload hx hb d_Model_copies_39 (lv_at hl 4 rfl) ?_
        refine lv_imul hx hb d_Model_copies_41 ?_
        refine lv_iload_n hx hb d_Model_copies_42 rfl (lv_at hl 2 rfl) ?_
        refine lv_iadd hx hb d_Model_copies_43 ?_
        obtain ⟨hi44, h⟩ := chk_el h
        refine gg_iald hx hb hK hP o_34 hi44 d_Model_copies_44 ?_
        refine lv_aload_n hx hb d_Model_copies_45 rfl (lv_at hl 0 rfl) ?_
        refine gg_get (C := R_Model) (T := F_Model) (N := 23) (ci := 5) hx hb hall i_Model hown hK hP o0.1 (wE_5 o0.2) rfl 11 (by decide) (hall _ m_353) (fun _ h9 => h9) rfl d_Model_copies_46 ?_
        have o_46 : okA g 6 360 (R a0 11) := ty_Model_11 hT o0
        refine lv_bipush (v := 60) hx hb d_Model_copies_49 (by decide) ?_
        refine lv_iload_n hx hb d_Model_copies_51 rfl (lv_at hl 1 rfl) ?_
        refine lv_imul hx hb d_Model_copies_52 ?_
        refine lv_iload_n hx hb d_Model_copies_53 rfl (lv_at hl 2 rfl) ?_
        refine lv_iadd hx hb d_Model_copies_54 ?_
        obtain ⟨hi55, h⟩ := chk_el h
        refine gg_iald hx hb hK hP o_46 hi55 d_Model_copies_55 ?_
        refine lv_icmp_ne hx hb d_Model_copies_56 rfl (fun hc => ?_) (fun hc => ?_)
        · replace h := i_neg hc h
          exact b_Model_copies_63 cx ih _ _ _ _ _ _ _ _ o0 h hP hS (lv_sub hl [0, 1, 2, 4] rfl)
        · replace h := i_pos hc h
          refine lv_iconst (v := 1) hx hb d_Model_copies_59 (by decide) ?_
          refine lv_goto hx hb d_Model_copies_60 rfl ?_
          exact b_Model_copies_64 cx ih _ _ _ _ _ _ _ _ _ o0 h hP hS (lv_sub hl [0, 1, 2, 4] rfl)
def F_Model_copies (R : Nat → Nat → Nat) (a0 : Nat) (x1 : Int32) (x2 : Int32) (I : St) : Option Int32 := B_Model_copies_9 R I 100 a0 x1 x2 (0 : Int32) ((x1 / (3 : Int32)) * (3 : Int32))
set_option maxHeartbeats 4000000 in
set_option maxRecDepth 100000 in
theorem c_Model_copies (l : Launch) {g : Sg} {R : Nat → Nat → Nat} (hT : Ty g R) {a0 : Nat} (o0 : okA g 5 0 a0) {x1 : Int32} {x2 : Int32} {I : St} {v : Int32} (h : F_Model_copies R a0 x1 x2 I = some v) : Cti l g R y_Model_copies w_Model_copies 0 0 [.ref a0, .int x1, .int x2] I v I := by
  unfold Cti
  refine Met.ofW (cc := b_Model_copies) (maxL := 5) (ret := (some .int)) (by decide) rfl ?_
  intro p e s m args below meth c s₁ B hml hv
  obtain ⟨rfl, hP, hK⟩ := hv
  have hts := atoms_spec (ws := w_Model_copies) B.pre
  have hall : ∀ w ∈ w_all, w.before _ s = true := fun w hw => hts w (List.mem_cons_of_mem _ hw)
  have hown : s.vm.findClass R_Model = some m.cls := findClass_of_methodNamed B.named
  have hx := B.exec
  have hb := B.bytes
  have hr := B.returns
  have hlk := B.notSynchronized
  have cx : Cx p s m _ meth c g R R_Model b_Model_copies 5 (some .int) := ⟨hx, hb, hml, hr, hlk, hown, hall, hT, hK⟩
  have hl := lv_entry ([.ref a0, .int x1, .int x2]) (n := 5) (Nat.le_of_ble_eq_true rfl)
  rw [lg_entry_eq]
  generalize (lg_sl ([.ref a0, .int x1, .int x2]) ++ List.replicate (5 - (lg_sl ([.ref a0, .int x1, .int x2])).length) Slot.unset).toArray = ls at hl ⊢
  have hl : lv_has ls 5 [(0, .ref a0), (1, .int x1), (2, .int x2)] := hl
  have hS : va_S (· ∈ g.L) s.heap s.heap [] := va_S.rf
  unfold F_Model_copies at h
  refine lv_iconst (v := 0) hx hb d_Model_copies_0 (by decide) ?_
  refine lv_istore_n (lv' := [(3, .int (0 : Int32)), (0, .ref a0), (1, .int x1), (2, .int x2)]) hx hb d_Model_copies_1 rfl hl (Nat.le_of_ble_eq_true rfl) rfl (fun ls hl => ?_)
  refine lv_iload_n hx hb d_Model_copies_2 rfl (lv_at hl 2 rfl) ?_
  refine lv_iconst (v := 3) hx hb d_Model_copies_3 (by decide) ?_
  refine lv_idiv hx hb d_Model_copies_4 (by decide) ?_
  refine lv_iconst (v := 3) hx hb d_Model_copies_5 (by decide) ?_
  refine lv_imul hx hb d_Model_copies_6 ?_
  refine lv_istore (lv' := [(4, .int ((x1 / (3 : Int32)) * (3 : Int32))), (3, .int (0 : Int32)), (0, .ref a0), (1, .int x1), (2, .int x2)]) hx hb d_Model_copies_7 hl (Nat.le_of_ble_eq_true rfl) rfl (fun ls hl => ?_)
  exact b_Model_copies_9 cx 100 _ _ _ _ _ _ _ _ o0 h hP hS (lv_sub hl [2, 3, 4, 1, 0] rfl)
abbrev b_Model_ship : ByteArray := prog_7_method_27_code
def y_Model_ship : MethodName := ⟨"StampedStoreModel", "ship", "(II)I"⟩
def w_Model_ship : List Cond := .code y_Model_ship b_Model_ship 6 (some .int) :: w_all
theorem d_Model_ship_0 : decode b_Model_ship 0 = .ok (.iload_n 1, 1) := by decide +kernel
theorem d_Model_ship_1 : decode b_Model_ship 1 = .ok (.bipush 6, 2) := by decide +kernel
theorem d_Model_ship_3 : decode b_Model_ship 3 = .ok (.invokestatic 78, 3) := by decide +kernel
theorem d_Model_ship_6 : decode b_Model_ship 6 = .ok (.ifCond .eq 53, 3) := by decide +kernel
theorem d_Model_ship_9 : decode b_Model_ship 9 = .ok (.iload_n 2, 1) := by decide +kernel
theorem d_Model_ship_10 : decode b_Model_ship 10 = .ok (.bipush 6, 2) := by decide +kernel
theorem d_Model_ship_12 : decode b_Model_ship 12 = .ok (.invokestatic 78, 3) := by decide +kernel
theorem d_Model_ship_15 : decode b_Model_ship 15 = .ok (.ifCond .eq 44, 3) := by decide +kernel
theorem d_Model_ship_18 : decode b_Model_ship 18 = .ok (.iload_n 1, 1) := by decide +kernel
theorem d_Model_ship_19 : decode b_Model_ship 19 = .ok (.iload_n 2, 1) := by decide +kernel
theorem d_Model_ship_20 : decode b_Model_ship 20 = .ok (.if_icmp .eq 39, 3) := by decide +kernel
theorem d_Model_ship_23 : decode b_Model_ship 23 = .ok (.iload_n 1, 1) := by decide +kernel
theorem d_Model_ship_24 : decode b_Model_ship 24 = .ok (.iconst 3, 1) := by decide +kernel
theorem d_Model_ship_25 : decode b_Model_ship 25 = .ok (.idiv, 1) := by decide +kernel
theorem d_Model_ship_26 : decode b_Model_ship 26 = .ok (.iload_n 2, 1) := by decide +kernel
theorem d_Model_ship_27 : decode b_Model_ship 27 = .ok (.iconst 3, 1) := by decide +kernel
theorem d_Model_ship_28 : decode b_Model_ship 28 = .ok (.idiv, 1) := by decide +kernel
theorem d_Model_ship_29 : decode b_Model_ship 29 = .ok (.if_icmp .ne 30, 3) := by decide +kernel
theorem d_Model_ship_32 : decode b_Model_ship 32 = .ok (.aload_n 0, 1) := by decide +kernel
theorem d_Model_ship_33 : decode b_Model_ship 33 = .ok (.getfield 7, 3) := by decide +kernel
theorem d_Model_ship_36 : decode b_Model_ship 36 = .ok (.iload_n 1, 1) := by decide +kernel
theorem d_Model_ship_37 : decode b_Model_ship 37 = .ok (.baload, 1) := by decide +kernel
theorem d_Model_ship_38 : decode b_Model_ship 38 = .ok (.ifCond .ne 21, 3) := by decide +kernel
theorem d_Model_ship_41 : decode b_Model_ship 41 = .ok (.aload_n 0, 1) := by decide +kernel
theorem d_Model_ship_42 : decode b_Model_ship 42 = .ok (.getfield 7, 3) := by decide +kernel
theorem d_Model_ship_45 : decode b_Model_ship 45 = .ok (.iload_n 2, 1) := by decide +kernel
theorem d_Model_ship_46 : decode b_Model_ship 46 = .ok (.baload, 1) := by decide +kernel
theorem d_Model_ship_47 : decode b_Model_ship 47 = .ok (.ifCond .ne 12, 3) := by decide +kernel
theorem d_Model_ship_50 : decode b_Model_ship 50 = .ok (.aload_n 0, 1) := by decide +kernel
theorem d_Model_ship_51 : decode b_Model_ship 51 = .ok (.getfield 26, 3) := by decide +kernel
theorem d_Model_ship_54 : decode b_Model_ship 54 = .ok (.iload_n 1, 1) := by decide +kernel
theorem d_Model_ship_55 : decode b_Model_ship 55 = .ok (.baload, 1) := by decide +kernel
theorem d_Model_ship_56 : decode b_Model_ship 56 = .ok (.ifCond .ne 5, 3) := by decide +kernel
theorem d_Model_ship_59 : decode b_Model_ship 59 = .ok (.iconst (-1), 1) := by decide +kernel
theorem d_Model_ship_60 : decode b_Model_ship 60 = .ok (.ireturn, 1) := by decide +kernel
theorem d_Model_ship_61 : decode b_Model_ship 61 = .ok (.aload_n 0, 1) := by decide +kernel
theorem d_Model_ship_62 : decode b_Model_ship 62 = .ok (.getfield 17, 3) := by decide +kernel
theorem d_Model_ship_65 : decode b_Model_ship 65 = .ok (.iload_n 2, 1) := by decide +kernel
theorem d_Model_ship_66 : decode b_Model_ship 66 = .ok (.iaload, 1) := by decide +kernel
theorem d_Model_ship_67 : decode b_Model_ship 67 = .ok (.aload_n 0, 1) := by decide +kernel
theorem d_Model_ship_68 : decode b_Model_ship 68 = .ok (.getfield 17, 3) := by decide +kernel
theorem d_Model_ship_71 : decode b_Model_ship 71 = .ok (.iload_n 1, 1) := by decide +kernel
theorem d_Model_ship_72 : decode b_Model_ship 72 = .ok (.iaload, 1) := by decide +kernel
theorem d_Model_ship_73 : decode b_Model_ship 73 = .ok (.if_icmp .le 13, 3) := by decide +kernel
theorem d_Model_ship_76 : decode b_Model_ship 76 = .ok (.aload_n 0, 1) := by decide +kernel
theorem d_Model_ship_77 : decode b_Model_ship 77 = .ok (.getfield 26, 3) := by decide +kernel
theorem d_Model_ship_80 : decode b_Model_ship 80 = .ok (.iload_n 1, 1) := by decide +kernel
theorem d_Model_ship_81 : decode b_Model_ship 81 = .ok (.iconst 0, 1) := by decide +kernel
theorem d_Model_ship_82 : decode b_Model_ship 82 = .ok (.bastore, 1) := by decide +kernel
theorem d_Model_ship_83 : decode b_Model_ship 83 = .ok (.bipush (-5), 2) := by decide +kernel
theorem d_Model_ship_85 : decode b_Model_ship 85 = .ok (.ireturn, 1) := by decide +kernel
theorem d_Model_ship_86 : decode b_Model_ship 86 = .ok (.aload_n 0, 1) := by decide +kernel
theorem d_Model_ship_87 : decode b_Model_ship 87 = .ok (.iload_n 2, 1) := by decide +kernel
theorem d_Model_ship_88 : decode b_Model_ship 88 = .ok (.aload_n 0, 1) := by decide +kernel
theorem d_Model_ship_89 : decode b_Model_ship 89 = .ok (.getfield 17, 3) := by decide +kernel
theorem d_Model_ship_92 : decode b_Model_ship 92 = .ok (.iload_n 1, 1) := by decide +kernel
theorem d_Model_ship_93 : decode b_Model_ship 93 = .ok (.iaload, 1) := by decide +kernel
theorem d_Model_ship_94 : decode b_Model_ship 94 = .ok (.invokevirtual 110, 3) := by decide +kernel
theorem d_Model_ship_97 : decode b_Model_ship 97 = .ok (.aload_n 0, 1) := by decide +kernel
theorem d_Model_ship_98 : decode b_Model_ship 98 = .ok (.iload_n 1, 1) := by decide +kernel
theorem d_Model_ship_99 : decode b_Model_ship 99 = .ok (.iload_n 2, 1) := by decide +kernel
theorem d_Model_ship_100 : decode b_Model_ship 100 = .ok (.invokevirtual 129, 3) := by decide +kernel
theorem d_Model_ship_103 : decode b_Model_ship 103 = .ok (.istore_n 3, 1) := by decide +kernel
theorem d_Model_ship_104 : decode b_Model_ship 104 = .ok (.aload_n 0, 1) := by decide +kernel
theorem d_Model_ship_105 : decode b_Model_ship 105 = .ok (.getfield 32, 3) := by decide +kernel
theorem d_Model_ship_108 : decode b_Model_ship 108 = .ok (.iload_n 2, 1) := by decide +kernel
theorem d_Model_ship_109 : decode b_Model_ship 109 = .ok (.iload_n 3, 1) := by decide +kernel
theorem d_Model_ship_110 : decode b_Model_ship 110 = .ok (.iastore, 1) := by decide +kernel
theorem d_Model_ship_111 : decode b_Model_ship 111 = .ok (.iload_n 3, 1) := by decide +kernel
theorem d_Model_ship_112 : decode b_Model_ship 112 = .ok (.aload_n 0, 1) := by decide +kernel
theorem d_Model_ship_113 : decode b_Model_ship 113 = .ok (.getfield 32, 3) := by decide +kernel
theorem d_Model_ship_116 : decode b_Model_ship 116 = .ok (.iload_n 1, 1) := by decide +kernel
theorem d_Model_ship_117 : decode b_Model_ship 117 = .ok (.iaload, 1) := by decide +kernel
theorem d_Model_ship_118 : decode b_Model_ship 118 = .ok (.if_icmp .ge 62, 3) := by decide +kernel
theorem d_Model_ship_121 : decode b_Model_ship 121 = .ok (.bipush 60, 2) := by decide +kernel
theorem d_Model_ship_123 : decode b_Model_ship 123 = .ok (.iload_n 1, 1) := by decide +kernel
theorem d_Model_ship_124 : decode b_Model_ship 124 = .ok (.imul, 1) := by decide +kernel
theorem d_Model_ship_125 : decode b_Model_ship 125 = .ok (.iload_n 3, 1) := by decide +kernel
theorem d_Model_ship_126 : decode b_Model_ship 126 = .ok (.iadd, 1) := by decide +kernel
theorem d_Model_ship_127 : decode b_Model_ship 127 = .ok (.istore 4, 2) := by decide +kernel
theorem d_Model_ship_129 : decode b_Model_ship 129 = .ok (.aload_n 0, 1) := by decide +kernel
theorem d_Model_ship_130 : decode b_Model_ship 130 = .ok (.iload_n 2, 1) := by decide +kernel
theorem d_Model_ship_131 : decode b_Model_ship 131 = .ok (.aload_n 0, 1) := by decide +kernel
theorem d_Model_ship_132 : decode b_Model_ship 132 = .ok (.getfield 44, 3) := by decide +kernel
theorem d_Model_ship_135 : decode b_Model_ship 135 = .ok (.iload 4, 2) := by decide +kernel
theorem d_Model_ship_137 : decode b_Model_ship 137 = .ok (.iaload, 1) := by decide +kernel
theorem d_Model_ship_138 : decode b_Model_ship 138 = .ok (.aload_n 0, 1) := by decide +kernel
theorem d_Model_ship_139 : decode b_Model_ship 139 = .ok (.getfield 47, 3) := by decide +kernel
theorem d_Model_ship_142 : decode b_Model_ship 142 = .ok (.iload 4, 2) := by decide +kernel
theorem d_Model_ship_144 : decode b_Model_ship 144 = .ok (.iaload, 1) := by decide +kernel
theorem d_Model_ship_145 : decode b_Model_ship 145 = .ok (.aload_n 0, 1) := by decide +kernel
theorem d_Model_ship_146 : decode b_Model_ship 146 = .ok (.getfield 50, 3) := by decide +kernel
theorem d_Model_ship_149 : decode b_Model_ship 149 = .ok (.iload 4, 2) := by decide +kernel
theorem d_Model_ship_151 : decode b_Model_ship 151 = .ok (.iaload, 1) := by decide +kernel
theorem d_Model_ship_152 : decode b_Model_ship 152 = .ok (.aload_n 0, 1) := by decide +kernel
theorem d_Model_ship_153 : decode b_Model_ship 153 = .ok (.getfield 41, 3) := by decide +kernel
theorem d_Model_ship_156 : decode b_Model_ship 156 = .ok (.iload 4, 2) := by decide +kernel
theorem d_Model_ship_158 : decode b_Model_ship 158 = .ok (.iaload, 1) := by decide +kernel
theorem d_Model_ship_159 : decode b_Model_ship 159 = .ok (.invokevirtual 125, 3) := by decide +kernel
theorem d_Model_ship_162 : decode b_Model_ship 162 = .ok (.aload_n 0, 1) := by decide +kernel
theorem d_Model_ship_163 : decode b_Model_ship 163 = .ok (.getfield 38, 3) := by decide +kernel
theorem d_Model_ship_166 : decode b_Model_ship 166 = .ok (.bipush 60, 2) := by decide +kernel
theorem d_Model_ship_168 : decode b_Model_ship 168 = .ok (.iload_n 2, 1) := by decide +kernel
theorem d_Model_ship_169 : decode b_Model_ship 169 = .ok (.imul, 1) := by decide +kernel
theorem d_Model_ship_170 : decode b_Model_ship 170 = .ok (.iload_n 3, 1) := by decide +kernel
theorem d_Model_ship_171 : decode b_Model_ship 171 = .ok (.iadd, 1) := by decide +kernel
theorem d_Model_ship_172 : decode b_Model_ship 172 = .ok (.aload_n 0, 1) := by decide +kernel
theorem d_Model_ship_173 : decode b_Model_ship 173 = .ok (.getfield 38, 3) := by decide +kernel
theorem d_Model_ship_176 : decode b_Model_ship 176 = .ok (.iload 4, 2) := by decide +kernel
theorem d_Model_ship_178 : decode b_Model_ship 178 = .ok (.iaload, 1) := by decide +kernel
theorem d_Model_ship_179 : decode b_Model_ship 179 = .ok (.iastore, 1) := by decide +kernel
theorem d_Model_ship_180 : decode b_Model_ship 180 = .ok (.aload_n 0, 1) := by decide +kernel
theorem d_Model_ship_181 : decode b_Model_ship 181 = .ok (.getfield 35, 3) := by decide +kernel
theorem d_Model_ship_184 : decode b_Model_ship 184 = .ok (.iload_n 1, 1) := by decide +kernel
theorem d_Model_ship_185 : decode b_Model_ship 185 = .ok (.iaload, 1) := by decide +kernel
theorem d_Model_ship_186 : decode b_Model_ship 186 = .ok (.istore 4, 2) := by decide +kernel
theorem d_Model_ship_188 : decode b_Model_ship 188 = .ok (.iconst 0, 1) := by decide +kernel
theorem d_Model_ship_189 : decode b_Model_ship 189 = .ok (.istore 5, 2) := by decide +kernel
theorem d_Model_ship_191 : decode b_Model_ship 191 = .ok (.iload 5, 2) := by decide +kernel
theorem d_Model_ship_193 : decode b_Model_ship 193 = .ok (.aload_n 0, 1) := by decide +kernel
theorem d_Model_ship_194 : decode b_Model_ship 194 = .ok (.getfield 32, 3) := by decide +kernel
theorem d_Model_ship_197 : decode b_Model_ship 197 = .ok (.iload_n 1, 1) := by decide +kernel
theorem d_Model_ship_198 : decode b_Model_ship 198 = .ok (.iaload, 1) := by decide +kernel
theorem d_Model_ship_199 : decode b_Model_ship 199 = .ok (.if_icmp .ge 59, 3) := by decide +kernel
theorem d_Model_ship_202 : decode b_Model_ship 202 = .ok (.iload 5, 2) := by decide +kernel
theorem d_Model_ship_204 : decode b_Model_ship 204 = .ok (.iload 4, 2) := by decide +kernel
theorem d_Model_ship_206 : decode b_Model_ship 206 = .ok (.if_icmp .lt 42, 3) := by decide +kernel
theorem d_Model_ship_209 : decode b_Model_ship 209 = .ok (.aload_n 0, 1) := by decide +kernel
theorem d_Model_ship_210 : decode b_Model_ship 210 = .ok (.getfield 38, 3) := by decide +kernel
theorem d_Model_ship_213 : decode b_Model_ship 213 = .ok (.bipush 60, 2) := by decide +kernel
theorem d_Model_ship_215 : decode b_Model_ship 215 = .ok (.iload_n 1, 1) := by decide +kernel
theorem d_Model_ship_216 : decode b_Model_ship 216 = .ok (.imul, 1) := by decide +kernel
theorem d_Model_ship_217 : decode b_Model_ship 217 = .ok (.iload 5, 2) := by decide +kernel
theorem d_Model_ship_219 : decode b_Model_ship 219 = .ok (.iadd, 1) := by decide +kernel
theorem d_Model_ship_220 : decode b_Model_ship 220 = .ok (.iaload, 1) := by decide +kernel
theorem d_Model_ship_221 : decode b_Model_ship 221 = .ok (.aload_n 0, 1) := by decide +kernel
theorem d_Model_ship_222 : decode b_Model_ship 222 = .ok (.getfield 17, 3) := by decide +kernel
theorem d_Model_ship_225 : decode b_Model_ship 225 = .ok (.iload_n 1, 1) := by decide +kernel
theorem d_Model_ship_226 : decode b_Model_ship 226 = .ok (.iaload, 1) := by decide +kernel
theorem d_Model_ship_227 : decode b_Model_ship 227 = .ok (.if_icmp .ne 21, 3) := by decide +kernel
theorem d_Model_ship_230 : decode b_Model_ship 230 = .ok (.aload_n 0, 1) := by decide +kernel
theorem d_Model_ship_231 : decode b_Model_ship 231 = .ok (.iload_n 1, 1) := by decide +kernel
theorem d_Model_ship_232 : decode b_Model_ship 232 = .ok (.iload 5, 2) := by decide +kernel
theorem d_Model_ship_234 : decode b_Model_ship 234 = .ok (.invokevirtual 132, 3) := by decide +kernel
theorem d_Model_ship_237 : decode b_Model_ship 237 = .ok (.iconst 2, 1) := by decide +kernel
theorem d_Model_ship_238 : decode b_Model_ship 238 = .ok (.if_icmp .lt 10, 3) := by decide +kernel
theorem d_Model_ship_241 : decode b_Model_ship 241 = .ok (.iload 5, 2) := by decide +kernel
theorem d_Model_ship_243 : decode b_Model_ship 243 = .ok (.iconst 1, 1) := by decide +kernel
theorem d_Model_ship_244 : decode b_Model_ship 244 = .ok (.iadd, 1) := by decide +kernel
theorem d_Model_ship_245 : decode b_Model_ship 245 = .ok (.goto 5, 3) := by decide +kernel
theorem d_Model_ship_248 : decode b_Model_ship 248 = .ok (.iload 4, 2) := by decide +kernel
theorem d_Model_ship_250 : decode b_Model_ship 250 = .ok (.istore 4, 2) := by decide +kernel
theorem d_Model_ship_252 : decode b_Model_ship 252 = .ok (.iinc 5 1, 3) := by decide +kernel
theorem d_Model_ship_255 : decode b_Model_ship 255 = .ok (.goto (-64), 3) := by decide +kernel
theorem d_Model_ship_258 : decode b_Model_ship 258 = .ok (.aload_n 0, 1) := by decide +kernel
theorem d_Model_ship_259 : decode b_Model_ship 259 = .ok (.getfield 35, 3) := by decide +kernel
theorem d_Model_ship_262 : decode b_Model_ship 262 = .ok (.iload_n 1, 1) := by decide +kernel
theorem d_Model_ship_263 : decode b_Model_ship 263 = .ok (.iload 4, 2) := by decide +kernel
theorem d_Model_ship_265 : decode b_Model_ship 265 = .ok (.iastore, 1) := by decide +kernel
theorem d_Model_ship_266 : decode b_Model_ship 266 = .ok (.iload 4, 2) := by decide +kernel
theorem d_Model_ship_268 : decode b_Model_ship 268 = .ok (.aload_n 0, 1) := by decide +kernel
theorem d_Model_ship_269 : decode b_Model_ship 269 = .ok (.getfield 32, 3) := by decide +kernel
theorem d_Model_ship_272 : decode b_Model_ship 272 = .ok (.iload_n 2, 1) := by decide +kernel
theorem d_Model_ship_273 : decode b_Model_ship 273 = .ok (.iaload, 1) := by decide +kernel
theorem d_Model_ship_274 : decode b_Model_ship 274 = .ok (.if_icmp .ge 8, 3) := by decide +kernel
theorem d_Model_ship_277 : decode b_Model_ship 277 = .ok (.iload 4, 2) := by decide +kernel
theorem d_Model_ship_279 : decode b_Model_ship 279 = .ok (.goto 9, 3) := by decide +kernel
theorem d_Model_ship_282 : decode b_Model_ship 282 = .ok (.aload_n 0, 1) := by decide +kernel
theorem d_Model_ship_283 : decode b_Model_ship 283 = .ok (.getfield 32, 3) := by decide +kernel
theorem d_Model_ship_286 : decode b_Model_ship 286 = .ok (.iload_n 2, 1) := by decide +kernel
theorem d_Model_ship_287 : decode b_Model_ship 287 = .ok (.iaload, 1) := by decide +kernel
theorem d_Model_ship_288 : decode b_Model_ship 288 = .ok (.istore 5, 2) := by decide +kernel
theorem d_Model_ship_290 : decode b_Model_ship 290 = .ok (.aload_n 0, 1) := by decide +kernel
theorem d_Model_ship_291 : decode b_Model_ship 291 = .ok (.getfield 35, 3) := by decide +kernel
theorem d_Model_ship_294 : decode b_Model_ship 294 = .ok (.iload_n 2, 1) := by decide +kernel
theorem d_Model_ship_295 : decode b_Model_ship 295 = .ok (.iload 5, 2) := by decide +kernel
theorem d_Model_ship_297 : decode b_Model_ship 297 = .ok (.aload_n 0, 1) := by decide +kernel
theorem d_Model_ship_298 : decode b_Model_ship 298 = .ok (.getfield 35, 3) := by decide +kernel
theorem d_Model_ship_301 : decode b_Model_ship 301 = .ok (.iload_n 2, 1) := by decide +kernel
theorem d_Model_ship_302 : decode b_Model_ship 302 = .ok (.iaload, 1) := by decide +kernel
theorem d_Model_ship_303 : decode b_Model_ship 303 = .ok (.if_icmp .le 8, 3) := by decide +kernel
theorem d_Model_ship_306 : decode b_Model_ship 306 = .ok (.iload 5, 2) := by decide +kernel
theorem d_Model_ship_308 : decode b_Model_ship 308 = .ok (.goto 9, 3) := by decide +kernel
theorem d_Model_ship_311 : decode b_Model_ship 311 = .ok (.aload_n 0, 1) := by decide +kernel
theorem d_Model_ship_312 : decode b_Model_ship 312 = .ok (.getfield 35, 3) := by decide +kernel
theorem d_Model_ship_315 : decode b_Model_ship 315 = .ok (.iload_n 2, 1) := by decide +kernel
theorem d_Model_ship_316 : decode b_Model_ship 316 = .ok (.iaload, 1) := by decide +kernel
theorem d_Model_ship_317 : decode b_Model_ship 317 = .ok (.iastore, 1) := by decide +kernel
theorem d_Model_ship_318 : decode b_Model_ship 318 = .ok (.aload_n 0, 1) := by decide +kernel
theorem d_Model_ship_319 : decode b_Model_ship 319 = .ok (.getfield 32, 3) := by decide +kernel
theorem d_Model_ship_322 : decode b_Model_ship 322 = .ok (.iload_n 2, 1) := by decide +kernel
theorem d_Model_ship_323 : decode b_Model_ship 323 = .ok (.iaload, 1) := by decide +kernel
theorem d_Model_ship_324 : decode b_Model_ship 324 = .ok (.ireturn, 1) := by decide +kernel
def B_Model_ship_59 (R : Nat → Nat → Nat) (I : St) : Option (Int32 × St) := some ((-1 : Int32), I)
set_option maxHeartbeats 4000000 in
set_option maxRecDepth 100000 in
theorem b_Model_ship_59 {p : Program} {l : Launch} {e : Env} {s : State} {m : MethodId} {args : Array Value} {below : List Frame} {meth : Method} {c : Code} {g : Sg} {R : Nat → Nat → Nat} {J : St} {v : Int32} (cx : Cx p s m args meth c g R R_Model b_Model_ship 6 (some .int)) : ∀ (I : St) (H : Heap) (locs : List Loc) (ls : Array Slot), B_Model_ship_59 R I = some (v, J) → wW g R I H → va_S (· ∈ g.L) s.heap H locs → lv_has ls 6 [] → W p l e { frames := 1, cells := 0, slots := 0, locals := 26 } s m args below meth c H locs 0 0 (MQ below (Qi g R v J) args s 0 0 (· ∈ g.L)) (F0 m 59 ls []) := by
  have ⟨hx, hb, hml, hr, hlk, hown, hall, hT, hK⟩ := cx
  intro I H locs ls h hP hS hl
  unfold B_Model_ship_59 at h
  refine lv_iconst (v := (-1)) hx hb d_Model_ship_59 (by decide) ?_
  obtain ⟨rfl, rfl⟩ := rt_el h
  exact gg_iret hx hb hr hlk hK hP hS d_Model_ship_60
def B_Model_ship_250 (R : Nat → Nat → Nat) (k191 : Nat → Int32 → Int32 → Int32 → Int32 → St → Option (Int32 × St)) (a0 : Nat) (x1 : Int32) (x2 : Int32) (x5 : Int32) (t0 : Int32) (I : St) : Option (Int32 × St) := k191 a0 x1 x2 t0 (x5 + 1) I
set_option maxHeartbeats 4000000 in
set_option maxRecDepth 100000 in
theorem b_Model_ship_250 {p : Program} {l : Launch} {e : Env} {s : State} {m : MethodId} {args : Array Value} {below : List Frame} {meth : Method} {c : Code} {g : Sg} {R : Nat → Nat → Nat} {J : St} {v : Int32} (cx : Cx p s m args meth c g R R_Model b_Model_ship 6 (some .int)) {k191 : Nat → Int32 → Int32 → Int32 → Int32 → St → Option (Int32 × St)} (hk191 : ∀ (a0 : Nat) (x1 : Int32) (x2 : Int32) (x4 : Int32) (x5 : Int32) (I : St) (H : Heap) (locs : List Loc) (ls : Array Slot), okA g 5 0 a0 → k191 a0 x1 x2 x4 x5 I = some (v, J) → wW g R I H → va_S (· ∈ g.L) s.heap H locs → lv_has ls 6 [(0, .ref a0), (1, .int x1), (2, .int x2), (4, .int x4), (5, .int x5)] → W p l e { frames := 1, cells := 0, slots := 0, locals := 26 } s m args below meth c H locs 0 0 (MQ below (Qi g R v J) args s 0 0 (· ∈ g.L)) (F0 m 191 ls [])) : ∀ (a0 : Nat) (x1 : Int32) (x2 : Int32) (x5 : Int32) (t0 : Int32) (I : St) (H : Heap) (locs : List Loc) (ls : Array Slot), okA g 5 0 a0 → B_Model_ship_250 R k191 a0 x1 x2 x5 t0 I = some (v, J) → wW g R I H → va_S (· ∈ g.L) s.heap H locs → lv_has ls 6 [(0, .ref a0), (1, .int x1), (2, .int x2), (5, .int x5)] → W p l e { frames := 1, cells := 0, slots := 0, locals := 26 } s m args below meth c H locs 0 0 (MQ below (Qi g R v J) args s 0 0 (· ∈ g.L)) (F0 m 250 ls [.int t0]) := by
  have ⟨hx, hb, hml, hr, hlk, hown, hall, hT, hK⟩ := cx
  intro a0 x1 x2 x5 t0 I H locs ls o0 h hP hS hl
  unfold B_Model_ship_250 at h
  refine lv_istore (lv' := [(4, .int t0), (0, .ref a0), (1, .int x1), (2, .int x2), (5, .int x5)]) hx hb d_Model_ship_250 hl (Nat.le_of_ble_eq_true rfl) rfl (fun ls hl => ?_)
  refine lv_iinc (k := 4) (v := (x5 + 1)) (lv' := [(5, .int (x5 + 1)), (4, .int t0), (0, .ref a0), (1, .int x1), (2, .int x2)]) hx hb d_Model_ship_252 hl rfl (by rw [show Int32.ofInt 1 = (1 : Int32) from by decide]) (Nat.le_of_ble_eq_true rfl) rfl (fun ls hl => ?_)
  refine lv_goto hx hb d_Model_ship_255 rfl ?_
  exact hk191 _ _ _ _ _ _ _ _ _ o0 h hP hS (lv_sub hl [2, 3, 4, 1, 0] rfl)
def B_Model_ship_248 (R : Nat → Nat → Nat) (k191 : Nat → Int32 → Int32 → Int32 → Int32 → St → Option (Int32 × St)) (a0 : Nat) (x1 : Int32) (x2 : Int32) (x4 : Int32) (x5 : Int32) (I : St) : Option (Int32 × St) := B_Model_ship_250 R k191 a0 x1 x2 x5 x4 I
set_option maxHeartbeats 4000000 in
set_option maxRecDepth 100000 in
theorem b_Model_ship_248 {p : Program} {l : Launch} {e : Env} {s : State} {m : MethodId} {args : Array Value} {below : List Frame} {meth : Method} {c : Code} {g : Sg} {R : Nat → Nat → Nat} {J : St} {v : Int32} (cx : Cx p s m args meth c g R R_Model b_Model_ship 6 (some .int)) {k191 : Nat → Int32 → Int32 → Int32 → Int32 → St → Option (Int32 × St)} (hk191 : ∀ (a0 : Nat) (x1 : Int32) (x2 : Int32) (x4 : Int32) (x5 : Int32) (I : St) (H : Heap) (locs : List Loc) (ls : Array Slot), okA g 5 0 a0 → k191 a0 x1 x2 x4 x5 I = some (v, J) → wW g R I H → va_S (· ∈ g.L) s.heap H locs → lv_has ls 6 [(0, .ref a0), (1, .int x1), (2, .int x2), (4, .int x4), (5, .int x5)] → W p l e { frames := 1, cells := 0, slots := 0, locals := 26 } s m args below meth c H locs 0 0 (MQ below (Qi g R v J) args s 0 0 (· ∈ g.L)) (F0 m 191 ls [])) : ∀ (a0 : Nat) (x1 : Int32) (x2 : Int32) (x4 : Int32) (x5 : Int32) (I : St) (H : Heap) (locs : List Loc) (ls : Array Slot), okA g 5 0 a0 → B_Model_ship_248 R k191 a0 x1 x2 x4 x5 I = some (v, J) → wW g R I H → va_S (· ∈ g.L) s.heap H locs → lv_has ls 6 [(0, .ref a0), (1, .int x1), (2, .int x2), (4, .int x4), (5, .int x5)] → W p l e { frames := 1, cells := 0, slots := 0, locals := 26 } s m args below meth c H locs 0 0 (MQ below (Qi g R v J) args s 0 0 (· ∈ g.L)) (F0 m 248 ls []) := by
  have ⟨hx, hb, hml, hr, hlk, hown, hall, hT, hK⟩ := cx
  intro a0 x1 x2 x4 x5 I H locs ls o0 h hP hS hl
  unfold B_Model_ship_248 at h
  refine lv_iload hx hb d_Model_ship_248 (lv_at hl 3 rfl) ?_
  exact b_Model_ship_250 cx hk191 _ _ _ _ _ _ _ _ _ o0 h hP hS (lv_sub hl [0, 1, 2, 4] rfl)
def B_Model_ship_317 (R : Nat → Nat → Nat) (a0 : Nat) (x2 : Int32) (u0 : Nat) (t1 : Int32) (t2 : Int32) (I : St) : Option (Int32 × St) := (chk t1 6 (ap (up2 I u0 t1.toNatClampNeg t2) (fun I317 => (chk x2 6 (some ((I317 (R a0 9) x2.toNatClampNeg), I317))))))
set_option maxHeartbeats 4000000 in
set_option maxRecDepth 100000 in
theorem b_Model_ship_317 {p : Program} {l : Launch} {e : Env} {s : State} {m : MethodId} {args : Array Value} {below : List Frame} {meth : Method} {c : Code} {g : Sg} {R : Nat → Nat → Nat} {J : St} {v : Int32} (cx : Cx p s m args meth c g R R_Model b_Model_ship 6 (some .int)) : ∀ (a0 : Nat) (x2 : Int32) (u0 : Nat) (t1 : Int32) (t2 : Int32) (I : St) (H : Heap) (locs : List Loc) (ls : Array Slot), okA g 5 0 a0 → okA g 6 6 u0 → B_Model_ship_317 R a0 x2 u0 t1 t2 I = some (v, J) → wW g R I H → va_S (· ∈ g.L) s.heap H locs → lv_has ls 6 [(0, .ref a0), (2, .int x2)] → W p l e { frames := 1, cells := 0, slots := 0, locals := 26 } s m args below meth c H locs 0 0 (MQ below (Qi g R v J) args s 0 0 (· ∈ g.L)) (F0 m 317 ls [.int t2, .int t1, .ref u0]) := by
  have ⟨hx, hb, hml, hr, hlk, hown, hall, hT, hK⟩ := cx
  intro a0 x2 u0 t1 t2 I H locs ls o0 q0 h hP hS hl
  unfold B_Model_ship_317 at h
  obtain ⟨hi317, h⟩ := chk_el h
  refine gg_iast hx hb hT.1 hK hP hS q0 hi317 d_Model_ship_317 (fun I317 H locs e317 hP hS => ?_)
  replace h := ap_el e317 h
  refine lv_aload_n hx hb d_Model_ship_318 rfl (lv_at hl 0 rfl) ?_
  refine gg_get (C := R_Model) (T := F_Model) (N := 23) (ci := 5) hx hb hall i_Model hown hK hP o0.1 (wE_5 o0.2) rfl 9 (by decide) (hall _ m_366) (fun _ h9 => h9) rfl d_Model_ship_319 ?_
  have o_319 : okA g 6 6 (R a0 9) := ty_Model_9 hT o0
  refine lv_iload_n hx hb d_Model_ship_322 rfl (lv_at hl 1 rfl) ?_
  obtain ⟨hi323, h⟩ := chk_el h
  refine gg_iald hx hb hK hP o_319 hi323 d_Model_ship_323 ?_
  obtain ⟨rfl, rfl⟩ := rt_el h
  exact gg_iret hx hb hr hlk hK hP hS d_Model_ship_324
def B_Model_ship_288 (R : Nat → Nat → Nat) (a0 : Nat) (x2 : Int32) (t0 : Int32) (I : St) : Option (Int32 × St) := (chk x2 6 ((if t0 ≤ (I (R a0 10) x2.toNatClampNeg) then (chk x2 6 (B_Model_ship_317 R a0 x2 (R a0 10) x2 (I (R a0 10) x2.toNatClampNeg) I)) else B_Model_ship_317 R a0 x2 (R a0 10) x2 t0 I)))
set_option maxHeartbeats 4000000 in
set_option maxRecDepth 100000 in
theorem b_Model_ship_288 {p : Program} {l : Launch} {e : Env} {s : State} {m : MethodId} {args : Array Value} {below : List Frame} {meth : Method} {c : Code} {g : Sg} {R : Nat → Nat → Nat} {J : St} {v : Int32} (cx : Cx p s m args meth c g R R_Model b_Model_ship 6 (some .int)) : ∀ (a0 : Nat) (x2 : Int32) (t0 : Int32) (I : St) (H : Heap) (locs : List Loc) (ls : Array Slot), okA g 5 0 a0 → B_Model_ship_288 R a0 x2 t0 I = some (v, J) → wW g R I H → va_S (· ∈ g.L) s.heap H locs → lv_has ls 6 [(0, .ref a0), (2, .int x2)] → W p l e { frames := 1, cells := 0, slots := 0, locals := 26 } s m args below meth c H locs 0 0 (MQ below (Qi g R v J) args s 0 0 (· ∈ g.L)) (F0 m 288 ls [.int t0]) := by
  have ⟨hx, hb, hml, hr, hlk, hown, hall, hT, hK⟩ := cx
  intro a0 x2 t0 I H locs ls o0 h hP hS hl
  unfold B_Model_ship_288 at h
  refine lv_istore (lv' := [(5, .int t0), (0, .ref a0), (2, .int x2)]) hx hb d_Model_ship_288 hl (Nat.le_of_ble_eq_true rfl) rfl (fun ls hl => ?_)
  refine lv_aload_n hx hb d_Model_ship_290 rfl (lv_at hl 1 rfl) ?_
  refine gg_get (C := R_Model) (T := F_Model) (N := 23) (ci := 5) hx hb hall i_Model hown hK hP o0.1 (wE_5 o0.2) rfl 10 (by decide) (hall _ m_349) (fun _ h9 => h9) rfl d_Model_ship_291 ?_
  have o_291 : okA g 6 6 (R a0 10) := ty_Model_10 hT o0
  refine lv_iload_n hx hb d_Model_ship_294 rfl (lv_at hl 2 rfl) ?_
  refine lv_iload hx hb d_Model_ship_295 (lv_at hl 0 rfl) ?_
  refine lv_aload_n hx hb d_Model_ship_297 rfl (lv_at hl 1 rfl) ?_
  refine gg_get (C := R_Model) (T := F_Model) (N := 23) (ci := 5) hx hb hall i_Model hown hK hP o0.1 (wE_5 o0.2) rfl 10 (by decide) (hall _ m_349) (fun _ h9 => h9) rfl d_Model_ship_298 ?_
  have o_298 : okA g 6 6 (R a0 10) := ty_Model_10 hT o0
  refine lv_iload_n hx hb d_Model_ship_301 rfl (lv_at hl 2 rfl) ?_
  obtain ⟨hi302, h⟩ := chk_el h
  refine gg_iald hx hb hK hP o_298 hi302 d_Model_ship_302 ?_
  refine lv_icmp_le hx hb d_Model_ship_303 rfl (fun hc => ?_) (fun hc => ?_)
  · replace h := i_pos hc h
    refine lv_aload_n hx hb d_Model_ship_311 rfl (lv_at hl 1 rfl) ?_
    refine gg_get (C := R_Model) (T := F_Model) (N := 23) (ci := 5) hx hb hall i_Model hown hK hP o0.1 (wE_5 o0.2) rfl 10 (by decide) (hall _ m_349) (fun _ h9 => h9) rfl d_Model_ship_312 ?_
    have o_312 : okA g 6 6 (R a0 10) := ty_Model_10 hT o0
    refine lv_iload_n hx hb d_Model_ship_315 rfl (lv_at hl 2 rfl) ?_
    obtain ⟨hi316, h⟩ := chk_el h
    refine gg_iald hx hb hK hP o_312 hi316 d_Model_ship_316 ?_
    exact b_Model_ship_317 cx _ _ _ _ _ _ _ _ _ o0 o_291 h hP hS (lv_sub hl [1, 2] rfl)
  · replace h := i_neg hc h
    refine lv_iload hx hb d_Model_ship_306 (lv_at hl 0 rfl) ?_
    refine lv_goto hx hb d_Model_ship_308 rfl ?_
    exact b_Model_ship_317 cx _ _ _ _ _ _ _ _ _ o0 o_291 h hP hS (lv_sub hl [1, 2] rfl)
def B_Model_ship_191 (R : Nat → Nat → Nat) : Nat → Nat → Int32 → Int32 → Int32 → Int32 → St → Option (Int32 × St)
  | 0, _, _, _, _, _, _ => none
  | f + 1, a0, x1, x2, x4, x5, I => (chk x1 6 ((if (I (R a0 9) x1.toNatClampNeg) ≤ x5 then (chk x1 6 (ap (up2 I (R a0 10) x1.toNatClampNeg x4) (fun I265 => (chk x2 6 ((if (I265 (R a0 9) x2.toNatClampNeg) ≤ x4 then (chk x2 6 (B_Model_ship_288 R a0 x2 (I265 (R a0 9) x2.toNatClampNeg) I265)) else B_Model_ship_288 R a0 x2 x4 I265)))))) else (if x5 < x4 then B_Model_ship_248 R (B_Model_ship_191 R f) a0 x1 x2 x4 x5 I else (chk (((60 : Int32) * x1) + x5) 360 ((chk x1 6 ((if (I (R a0 11) (((60 : Int32) * x1) + x5).toNatClampNeg) = (I (R a0 4) x1.toNatClampNeg) then (ob (F_Model_copies R a0 x1 x5 I) (fun v234 => (if v234 < (2 : Int32) then B_Model_ship_248 R (B_Model_ship_191 R f) a0 x1 x2 x4 x5 I else B_Model_ship_250 R (B_Model_ship_191 R f) a0 x1 x2 x5 (x5 + (1 : Int32)) I))) else B_Model_ship_248 R (B_Model_ship_191 R f) a0 x1 x2 x4 x5 I)))))))))
set_option maxHeartbeats 4000000 in
set_option maxRecDepth 100000 in
theorem b_Model_ship_191 {p : Program} {l : Launch} {e : Env} {s : State} {m : MethodId} {args : Array Value} {below : List Frame} {meth : Method} {c : Code} {g : Sg} {R : Nat → Nat → Nat} {J : St} {v : Int32} (cx : Cx p s m args meth c g R R_Model b_Model_ship 6 (some .int)) (f : Nat) : ∀ (a0 : Nat) (x1 : Int32) (x2 : Int32) (x4 : Int32) (x5 : Int32) (I : St) (H : Heap) (locs : List Loc) (ls : Array Slot), okA g 5 0 a0 → B_Model_ship_191 R f a0 x1 x2 x4 x5 I = some (v, J) → wW g R I H → va_S (· ∈ g.L) s.heap H locs → lv_has ls 6 [(0, .ref a0), (1, .int x1), (2, .int x2), (4, .int x4), (5, .int x5)] → W p l e { frames := 1, cells := 0, slots := 0, locals := 26 } s m args below meth c H locs 0 0 (MQ below (Qi g R v J) args s 0 0 (· ∈ g.L)) (F0 m 191 ls []) := by
  have ⟨hx, hb, hml, hr, hlk, hown, hall, hT, hK⟩ := cx
  induction f with
  | zero => intro a0 x1 x2 x4 x5 I H locs ls o0 h; unfold B_Model_ship_191 at h; cases h
  | succ f ih =>
    intro a0 x1 x2 x4 x5 I H locs ls o0 h hP hS hl
    unfold B_Model_ship_191 at h
    refine lv_iload hx hb d_Model_ship_191 (lv_at hl 4 rfl) ?_
    refine lv_aload_n hx hb d_Model_ship_193 rfl (lv_at hl 0 rfl) ?_
    refine gg_get (C := R_Model) (T := F_Model) (N := 23) (ci := 5) hx hb hall i_Model hown hK hP o0.1 (wE_5 o0.2) rfl 9 (by decide) (hall _ m_366) (fun _ h9 => h9) rfl d_Model_ship_194 ?_
    have o_194 : okA g 6 6 (R a0 9) := ty_Model_9 hT o0
    refine lv_iload_n hx hb d_Model_ship_197 rfl (lv_at hl 1 rfl) ?_
    obtain ⟨hi198, h⟩ := chk_el h
    refine gg_iald hx hb hK hP o_194 hi198 d_Model_ship_198 ?_
    refine lv_icmp_ge hx hb d_Model_ship_199 rfl (fun hc => ?_) (fun hc => ?_)
    · replace h := i_pos hc h
      refine lv_aload_n hx hb d_Model_ship_258 rfl (lv_at hl 0 rfl) ?_
      refine gg_get (C := R_Model) (T := F_Model) (N := 23) (ci := 5) hx hb hall i_Model hown hK hP o0.1 (wE_5 o0.2) rfl 10 (by decide) (hall _ m_349) (fun _ h9 => h9) rfl d_Model_ship_259 ?_
      have o_259 : okA g 6 6 (R a0 10) := ty_Model_10 hT o0
      refine lv_iload_n hx hb d_Model_ship_262 rfl (lv_at hl 1 rfl) ?_
      refine lv_iload hx hb d_Model_ship_263 (lv_at hl 3 rfl) ?_
      obtain ⟨hi265, h⟩ := chk_el h
      refine gg_iast hx hb hT.1 hK hP hS o_259 hi265 d_Model_ship_265 (fun I265 H locs e265 hP hS => ?_)
      replace h := ap_el e265 h
      refine lv_iload hx hb d_Model_ship_266 (lv_at hl 3 rfl) ?_
      refine lv_aload_n hx hb d_Model_ship_268 rfl (lv_at hl 0 rfl) ?_
      refine gg_get (C := R_Model) (T := F_Model) (N := 23) (ci := 5) hx hb hall i_Model hown hK hP o0.1 (wE_5 o0.2) rfl 9 (by decide) (hall _ m_366) (fun _ h9 => h9) rfl d_Model_ship_269 ?_
      have o_269 : okA g 6 6 (R a0 9) := ty_Model_9 hT o0
      refine lv_iload_n hx hb d_Model_ship_272 rfl (lv_at hl 2 rfl) ?_
      obtain ⟨hi273, h⟩ := chk_el h
      refine gg_iald hx hb hK hP o_269 hi273 d_Model_ship_273 ?_
      refine lv_icmp_ge hx hb d_Model_ship_274 rfl (fun hc => ?_) (fun hc => ?_)
      · replace h := i_pos hc h
        refine lv_aload_n hx hb d_Model_ship_282 rfl (lv_at hl 0 rfl) ?_
        refine gg_get (C := R_Model) (T := F_Model) (N := 23) (ci := 5) hx hb hall i_Model hown hK hP o0.1 (wE_5 o0.2) rfl 9 (by decide) (hall _ m_366) (fun _ h9 => h9) rfl d_Model_ship_283 ?_
        have o_283 : okA g 6 6 (R a0 9) := ty_Model_9 hT o0
        refine lv_iload_n hx hb d_Model_ship_286 rfl (lv_at hl 2 rfl) ?_
        obtain ⟨hi287, h⟩ := chk_el h
        refine gg_iald hx hb hK hP o_283 hi287 d_Model_ship_287 ?_
        exact b_Model_ship_288 cx _ _ _ _ _ _ _ o0 h hP hS (lv_sub hl [0, 2] rfl)
      · replace h := i_neg hc h
        refine lv_iload hx hb d_Model_ship_277 (lv_at hl 3 rfl) ?_
        refine lv_goto hx hb d_Model_ship_279 rfl ?_
        exact b_Model_ship_288 cx _ _ _ _ _ _ _ o0 h hP hS (lv_sub hl [0, 2] rfl)
    · replace h := i_neg hc h
      refine lv_iload hx hb d_Model_ship_202 (lv_at hl 4 rfl) ?_
      refine lv_iload hx hb d_Model_ship_204 (lv_at hl 3 rfl) ?_
      refine lv_icmp_lt hx hb d_Model_ship_206 rfl (fun hc => ?_) (fun hc => ?_)
      · replace h := i_pos hc h
        exact b_Model_ship_248 cx ih _ _ _ _ _ _ _ _ _ o0 h hP hS (lv_sub hl [0, 1, 2, 3, 4] rfl)
      · replace h := i_neg hc h
        refine lv_aload_n hx hb d_Model_ship_209 rfl (lv_at hl 0 rfl) ?_
        refine gg_get (C := R_Model) (T := F_Model) (N := 23) (ci := 5) hx hb hall i_Model hown hK hP o0.1 (wE_5 o0.2) rfl 11 (by decide) (hall _ m_353) (fun _ h9 => h9) rfl d_Model_ship_210 ?_
        have o_210 : okA g 6 360 (R a0 11) := ty_Model_11 hT o0
        refine lv_bipush (v := 60) hx hb d_Model_ship_213 (by decide) ?_
        refine lv_iload_n hx hb d_Model_ship_215 rfl (lv_at hl 1 rfl) ?_
        refine lv_imul hx hb d_Model_ship_216 ?_
        refine lv_iload hx hb d_Model_ship_217 (lv_at hl 4 rfl) ?_
        refine lv_iadd hx hb d_Model_ship_219 ?_
        obtain ⟨hi220, h⟩ := chk_el h
        refine gg_iald hx hb hK hP o_210 hi220 d_Model_ship_220 ?_
        refine lv_aload_n hx hb d_Model_ship_221 rfl (lv_at hl 0 rfl) ?_
        refine gg_get (C := R_Model) (T := F_Model) (N := 23) (ci := 5) hx hb hall i_Model hown hK hP o0.1 (wE_5 o0.2) rfl 4 (by decide) (hall _ m_354) (fun _ h9 => h9) rfl d_Model_ship_222 ?_
        have o_222 : okA g 6 6 (R a0 4) := ty_Model_4 hT o0
        refine lv_iload_n hx hb d_Model_ship_225 rfl (lv_at hl 1 rfl) ?_
        obtain ⟨hi226, h⟩ := chk_el h
        refine gg_iald hx hb hK hP o_222 hi226 d_Model_ship_226 ?_
        refine lv_icmp_ne hx hb d_Model_ship_227 rfl (fun hc => ?_) (fun hc => ?_)
        · replace h := i_neg hc h
          exact b_Model_ship_248 cx ih _ _ _ _ _ _ _ _ _ o0 h hP hS (lv_sub hl [0, 1, 2, 3, 4] rfl)
        · replace h := i_pos hc h
          refine lv_aload_n hx hb d_Model_ship_230 rfl (lv_at hl 0 rfl) ?_
          refine lv_iload_n hx hb d_Model_ship_231 rfl (lv_at hl 1 rfl) ?_
          refine lv_iload hx hb d_Model_ship_232 (lv_at hl 4 rfl) ?_
          obtain ⟨v234, e234, h⟩ := ob_el h
          refine gg_Vi (As := [.int x1, .int x5]) (rest := []) (ci := 5) (C := R_Model) (T := F_Model) (N := 23) ⟨hx, hb, hml, hown, hall⟩ (c_Model_copies l hT o0 e234) (cwV 2 hall (gV m_412 m_413 m_414 m_338 m_411) rfl rfl rfl (by decide +kernel) ⟨Nat.le_of_ble_eq_true rfl, Nat.le_of_ble_eq_true rfl⟩) hK hP hS o0.1 (wE_5 o0.2) rfl rfl hl.1 rfl (Nat.le_of_ble_eq_true rfl) d_Model_ship_234 (fun H locs hP hS => ?_)
          refine lv_iconst (v := 2) hx hb d_Model_ship_237 (by decide) ?_
          refine lv_icmp_lt hx hb d_Model_ship_238 rfl (fun hc => ?_) (fun hc => ?_)
          · replace h := i_pos hc h
            exact b_Model_ship_248 cx ih _ _ _ _ _ _ _ _ _ o0 h hP hS (lv_sub hl [0, 1, 2, 3, 4] rfl)
          · replace h := i_neg hc h
            refine lv_iload hx hb d_Model_ship_241 (lv_at hl 4 rfl) ?_
            refine lv_iconst (v := 1) hx hb d_Model_ship_243 (by decide) ?_
            refine lv_iadd hx hb d_Model_ship_244 ?_
            refine lv_goto hx hb d_Model_ship_245 rfl ?_
            exact b_Model_ship_250 cx ih _ _ _ _ _ _ _ _ _ o0 h hP hS (lv_sub hl [0, 1, 2, 4] rfl)
def B_Model_ship_180 (R : Nat → Nat → Nat) (a0 : Nat) (x1 : Int32) (x2 : Int32) (I : St) : Option (Int32 × St) := (chk x1 6 (B_Model_ship_191 R 100 a0 x1 x2 (I (R a0 10) x1.toNatClampNeg) (0 : Int32) I))
set_option maxHeartbeats 4000000 in
set_option maxRecDepth 100000 in
theorem b_Model_ship_180 {p : Program} {l : Launch} {e : Env} {s : State} {m : MethodId} {args : Array Value} {below : List Frame} {meth : Method} {c : Code} {g : Sg} {R : Nat → Nat → Nat} {J : St} {v : Int32} (cx : Cx p s m args meth c g R R_Model b_Model_ship 6 (some .int)) : ∀ (a0 : Nat) (x1 : Int32) (x2 : Int32) (I : St) (H : Heap) (locs : List Loc) (ls : Array Slot), okA g 5 0 a0 → B_Model_ship_180 R a0 x1 x2 I = some (v, J) → wW g R I H → va_S (· ∈ g.L) s.heap H locs → lv_has ls 6 [(0, .ref a0), (1, .int x1), (2, .int x2)] → W p l e { frames := 1, cells := 0, slots := 0, locals := 26 } s m args below meth c H locs 0 0 (MQ below (Qi g R v J) args s 0 0 (· ∈ g.L)) (F0 m 180 ls []) := by
  have ⟨hx, hb, hml, hr, hlk, hown, hall, hT, hK⟩ := cx
  intro a0 x1 x2 I H locs ls o0 h hP hS hl
  unfold B_Model_ship_180 at h
  refine lv_aload_n hx hb d_Model_ship_180 rfl (lv_at hl 0 rfl) ?_
  refine gg_get (C := R_Model) (T := F_Model) (N := 23) (ci := 5) hx hb hall i_Model hown hK hP o0.1 (wE_5 o0.2) rfl 10 (by decide) (hall _ m_349) (fun _ h9 => h9) rfl d_Model_ship_181 ?_
  have o_181 : okA g 6 6 (R a0 10) := ty_Model_10 hT o0
  refine lv_iload_n hx hb d_Model_ship_184 rfl (lv_at hl 1 rfl) ?_
  obtain ⟨hi185, h⟩ := chk_el h
  refine gg_iald hx hb hK hP o_181 hi185 d_Model_ship_185 ?_
  refine lv_istore (lv' := [(4, .int (I (R a0 10) x1.toNatClampNeg)), (0, .ref a0), (1, .int x1), (2, .int x2)]) hx hb d_Model_ship_186 hl (Nat.le_of_ble_eq_true rfl) rfl (fun ls hl => ?_)
  refine lv_iconst (v := 0) hx hb d_Model_ship_188 (by decide) ?_
  refine lv_istore (lv' := [(5, .int (0 : Int32)), (4, .int (I (R a0 10) x1.toNatClampNeg)), (0, .ref a0), (1, .int x1), (2, .int x2)]) hx hb d_Model_ship_189 hl (Nat.le_of_ble_eq_true rfl) rfl (fun ls hl => ?_)
  exact b_Model_ship_191 cx 100 _ _ _ _ _ _ _ _ _ o0 h hP hS (lv_sub hl [2, 3, 4, 1, 0] rfl)
def F_Model_ship (R : Nat → Nat → Nat) (a0 : Nat) (x1 : Int32) (x2 : Int32) (I : St) : Option (Int32 × St) := (ob (F_Model_below R x1 (6 : Int32) I) (fun v3 => (if v3 = 0 then B_Model_ship_59 R I else (ob (F_Model_below R x2 (6 : Int32) I) (fun v12 => (if v12 = 0 then B_Model_ship_59 R I else (if x1 = x2 then B_Model_ship_59 R I else (if (x1 / (3 : Int32)) = (x2 / (3 : Int32)) then (chk x1 6 ((if (I (R a0 2) x1.toNatClampNeg) = 0 then (chk x2 6 ((if (I (R a0 2) x2.toNatClampNeg) = 0 then (chk x1 6 ((if (I (R a0 7) x1.toNatClampNeg) = 0 then B_Model_ship_59 R I else (chk x2 6 ((chk x1 6 ((if (I (R a0 4) x2.toNatClampNeg) ≤ (I (R a0 4) x1.toNatClampNeg) then (chk x1 6 ((ob (F_Model_raise R a0 x2 (I (R a0 4) x1.toNatClampNeg) I) (fun I94 => (ob (F_Model_alike R a0 x1 x2 I94) (fun v100 => (chk x2 6 (ap (up2 I94 (R a0 9) x2.toNatClampNeg v100) (fun I110 => (chk x1 6 ((if (I110 (R a0 9) x1.toNatClampNeg) ≤ v100 then B_Model_ship_180 R a0 x1 x2 I110 else (chk (((60 : Int32) * x1) + v100) 360 ((chk (((60 : Int32) * x1) + v100) 360 ((chk (((60 : Int32) * x1) + v100) 360 ((chk (((60 : Int32) * x1) + v100) 360 ((ob (F_Model_put R a0 x2 (I110 (R a0 13) (((60 : Int32) * x1) + v100).toNatClampNeg) (I110 (R a0 14) (((60 : Int32) * x1) + v100).toNatClampNeg) (I110 (R a0 15) (((60 : Int32) * x1) + v100).toNatClampNeg) (I110 (R a0 12) (((60 : Int32) * x1) + v100).toNatClampNeg) I110) (fun I159 => (chk (((60 : Int32) * x1) + v100) 360 ((chk (((60 : Int32) * x2) + v100) 360 (ap (up2 I159 (R a0 11) (((60 : Int32) * x2) + v100).toNatClampNeg (I159 (R a0 11) (((60 : Int32) * x1) + v100).toNatClampNeg)) (fun I179 => B_Model_ship_180 R a0 x1 x2 I179))))))))))))))))))))))))))) else (chk x1 6 (ap (up2 I (R a0 7) x1.toNatClampNeg (vp_nar .boolean (0 : Int32))) (fun I82 => some ((-5 : Int32), I82)))))))))))) else B_Model_ship_59 R I))) else B_Model_ship_59 R I))) else B_Model_ship_59 R I))))))))
set_option maxHeartbeats 4000000 in
set_option maxRecDepth 100000 in
theorem c_Model_ship (l : Launch) {g : Sg} {R : Nat → Nat → Nat} (hT : Ty g R) {a0 : Nat} (o0 : okA g 5 0 a0) {x1 : Int32} {x2 : Int32} {I : St} {J : St} {v : Int32} (h : F_Model_ship R a0 x1 x2 I = some (v, J)) : Cti l g R y_Model_ship w_Model_ship 1 26 [.ref a0, .int x1, .int x2] I v J := by
  unfold Cti
  refine Met.ofW (cc := b_Model_ship) (maxL := 6) (ret := (some .int)) (by decide) rfl ?_
  intro p e s m args below meth c s₁ B hml hv
  obtain ⟨rfl, hP, hK⟩ := hv
  have hts := atoms_spec (ws := w_Model_ship) B.pre
  have hall : ∀ w ∈ w_all, w.before _ s = true := fun w hw => hts w (List.mem_cons_of_mem _ hw)
  have hown : s.vm.findClass R_Model = some m.cls := findClass_of_methodNamed B.named
  have hx := B.exec
  have hb := B.bytes
  have hr := B.returns
  have hlk := B.notSynchronized
  have cx : Cx p s m _ meth c g R R_Model b_Model_ship 6 (some .int) := ⟨hx, hb, hml, hr, hlk, hown, hall, hT, hK⟩
  have hl := lv_entry ([.ref a0, .int x1, .int x2]) (n := 6) (Nat.le_of_ble_eq_true rfl)
  rw [lg_entry_eq]
  generalize (lg_sl ([.ref a0, .int x1, .int x2]) ++ List.replicate (6 - (lg_sl ([.ref a0, .int x1, .int x2])).length) Slot.unset).toArray = ls at hl ⊢
  have hl : lv_has ls 6 [(0, .ref a0), (1, .int x1), (2, .int x2)] := hl
  have hS : va_S (· ∈ g.L) s.heap s.heap [] := va_S.rf
  unfold F_Model_ship at h
  refine lv_iload_n hx hb d_Model_ship_0 rfl (lv_at hl 1 rfl) ?_
  refine lv_bipush (v := 6) hx hb d_Model_ship_1 (by decide) ?_
  obtain ⟨v3, e3, h⟩ := ob_el h
  refine gg_Si (As := [.int x1, .int (6 : Int32)]) (rest := []) ⟨hx, hb, hml, hown, hall⟩ (c_Model_below l hT e3) (cwS 2 hall (gS m_336 m_337 m_338 m_329) rfl rfl rfl (by decide +kernel) ⟨Nat.le_of_ble_eq_true rfl, Nat.le_of_ble_eq_true rfl⟩) hK hP hS rfl hl.1 rfl (Nat.le_of_ble_eq_true rfl) d_Model_ship_3 (fun H locs hP hS => ?_)
  refine lv_if_eq hx hb d_Model_ship_6 rfl (fun hc => ?_) (fun hc => ?_)
  · replace h := i_pos hc h
    exact b_Model_ship_59 cx _ _ _ _ h hP hS (lv_sub hl [] rfl)
  · replace h := i_neg hc h
    refine lv_iload_n hx hb d_Model_ship_9 rfl (lv_at hl 2 rfl) ?_
    refine lv_bipush (v := 6) hx hb d_Model_ship_10 (by decide) ?_
    obtain ⟨v12, e12, h⟩ := ob_el h
    refine gg_Si (As := [.int x2, .int (6 : Int32)]) (rest := []) ⟨hx, hb, hml, hown, hall⟩ (c_Model_below l hT e12) (cwS 2 hall (gS m_336 m_337 m_338 m_329) rfl rfl rfl (by decide +kernel) ⟨Nat.le_of_ble_eq_true rfl, Nat.le_of_ble_eq_true rfl⟩) hK hP hS rfl hl.1 rfl (Nat.le_of_ble_eq_true rfl) d_Model_ship_12 (fun H locs hP hS => ?_)
    refine lv_if_eq hx hb d_Model_ship_15 rfl (fun hc => ?_) (fun hc => ?_)
    · replace h := i_pos hc h
      exact b_Model_ship_59 cx _ _ _ _ h hP hS (lv_sub hl [] rfl)
    · replace h := i_neg hc h
      refine lv_iload_n hx hb d_Model_ship_18 rfl (lv_at hl 1 rfl) ?_
      refine lv_iload_n hx hb d_Model_ship_19 rfl (lv_at hl 2 rfl) ?_
      refine lv_icmp_eq hx hb d_Model_ship_20 rfl (fun hc => ?_) (fun hc => ?_)
      · replace h := i_pos hc h
        exact b_Model_ship_59 cx _ _ _ _ h hP hS (lv_sub hl [] rfl)
      · replace h := i_neg hc h
        refine lv_iload_n hx hb d_Model_ship_23 rfl (lv_at hl 1 rfl) ?_
        refine lv_iconst (v := 3) hx hb d_Model_ship_24 (by decide) ?_
        refine lv_idiv hx hb d_Model_ship_25 (by decide) ?_
        refine lv_iload_n hx hb d_Model_ship_26 rfl (lv_at hl 2 rfl) ?_
        refine lv_iconst (v := 3) hx hb d_Model_ship_27 (by decide) ?_
        refine lv_idiv hx hb d_Model_ship_28 (by decide) ?_
        refine lv_icmp_ne hx hb d_Model_ship_29 rfl (fun hc => ?_) (fun hc => ?_)
        · replace h := i_neg hc h
          exact b_Model_ship_59 cx _ _ _ _ h hP hS (lv_sub hl [] rfl)
        · replace h := i_pos hc h
          refine lv_aload_n hx hb d_Model_ship_32 rfl (lv_at hl 0 rfl) ?_
          refine gg_get (C := R_Model) (T := F_Model) (N := 23) (ci := 5) hx hb hall i_Model hown hK hP o0.1 (wE_5 o0.2) rfl 2 (by decide) (hall _ m_340) (fun _ h9 => h9) rfl d_Model_ship_33 ?_
          have o_33 : okA g 7 6 (R a0 2) := ty_Model_2 hT o0
          refine lv_iload_n hx hb d_Model_ship_36 rfl (lv_at hl 1 rfl) ?_
          obtain ⟨hi37, h⟩ := chk_el h
          refine gg_zald hx hb hK hP o_33 hi37 d_Model_ship_37 ?_
          refine lv_if_ne hx hb d_Model_ship_38 rfl (fun hc => ?_) (fun hc => ?_)
          · replace h := i_neg hc h
            exact b_Model_ship_59 cx _ _ _ _ h hP hS (lv_sub hl [] rfl)
          · replace h := i_pos hc h
            refine lv_aload_n hx hb d_Model_ship_41 rfl (lv_at hl 0 rfl) ?_
            refine gg_get (C := R_Model) (T := F_Model) (N := 23) (ci := 5) hx hb hall i_Model hown hK hP o0.1 (wE_5 o0.2) rfl 2 (by decide) (hall _ m_340) (fun _ h9 => h9) rfl d_Model_ship_42 ?_
            have o_42 : okA g 7 6 (R a0 2) := ty_Model_2 hT o0
            refine lv_iload_n hx hb d_Model_ship_45 rfl (lv_at hl 2 rfl) ?_
            obtain ⟨hi46, h⟩ := chk_el h
            refine gg_zald hx hb hK hP o_42 hi46 d_Model_ship_46 ?_
            refine lv_if_ne hx hb d_Model_ship_47 rfl (fun hc => ?_) (fun hc => ?_)
            · replace h := i_neg hc h
              exact b_Model_ship_59 cx _ _ _ _ h hP hS (lv_sub hl [] rfl)
            · replace h := i_pos hc h
              refine lv_aload_n hx hb d_Model_ship_50 rfl (lv_at hl 0 rfl) ?_
              refine gg_get (C := R_Model) (T := F_Model) (N := 23) (ci := 5) hx hb hall i_Model hown hK hP o0.1 (wE_5 o0.2) rfl 7 (by decide) (hall _ m_341) (fun _ h9 => h9) rfl d_Model_ship_51 ?_
              have o_51 : okA g 7 6 (R a0 7) := ty_Model_7 hT o0
              refine lv_iload_n hx hb d_Model_ship_54 rfl (lv_at hl 1 rfl) ?_
              obtain ⟨hi55, h⟩ := chk_el h
              refine gg_zald hx hb hK hP o_51 hi55 d_Model_ship_55 ?_
              refine lv_if_ne hx hb d_Model_ship_56 rfl (fun hc => ?_) (fun hc => ?_)
              · replace h := i_neg hc h
                refine lv_aload_n hx hb d_Model_ship_61 rfl (lv_at hl 0 rfl) ?_
                refine gg_get (C := R_Model) (T := F_Model) (N := 23) (ci := 5) hx hb hall i_Model hown hK hP o0.1 (wE_5 o0.2) rfl 4 (by decide) (hall _ m_354) (fun _ h9 => h9) rfl d_Model_ship_62 ?_
                have o_62 : okA g 6 6 (R a0 4) := ty_Model_4 hT o0
                refine lv_iload_n hx hb d_Model_ship_65 rfl (lv_at hl 2 rfl) ?_
                obtain ⟨hi66, h⟩ := chk_el h
                refine gg_iald hx hb hK hP o_62 hi66 d_Model_ship_66 ?_
                refine lv_aload_n hx hb d_Model_ship_67 rfl (lv_at hl 0 rfl) ?_
                refine gg_get (C := R_Model) (T := F_Model) (N := 23) (ci := 5) hx hb hall i_Model hown hK hP o0.1 (wE_5 o0.2) rfl 4 (by decide) (hall _ m_354) (fun _ h9 => h9) rfl d_Model_ship_68 ?_
                have o_68 : okA g 6 6 (R a0 4) := ty_Model_4 hT o0
                refine lv_iload_n hx hb d_Model_ship_71 rfl (lv_at hl 1 rfl) ?_
                obtain ⟨hi72, h⟩ := chk_el h
                refine gg_iald hx hb hK hP o_68 hi72 d_Model_ship_72 ?_
                refine lv_icmp_le hx hb d_Model_ship_73 rfl (fun hc => ?_) (fun hc => ?_)
                · replace h := i_pos hc h
                  refine lv_aload_n hx hb d_Model_ship_86 rfl (lv_at hl 0 rfl) ?_
                  refine lv_iload_n hx hb d_Model_ship_87 rfl (lv_at hl 2 rfl) ?_
                  refine lv_aload_n hx hb d_Model_ship_88 rfl (lv_at hl 0 rfl) ?_
                  refine gg_get (C := R_Model) (T := F_Model) (N := 23) (ci := 5) hx hb hall i_Model hown hK hP o0.1 (wE_5 o0.2) rfl 4 (by decide) (hall _ m_354) (fun _ h9 => h9) rfl d_Model_ship_89 ?_
                  have o_89 : okA g 6 6 (R a0 4) := ty_Model_4 hT o0
                  refine lv_iload_n hx hb d_Model_ship_92 rfl (lv_at hl 1 rfl) ?_
                  obtain ⟨hi93, h⟩ := chk_el h
                  refine gg_iald hx hb hK hP o_89 hi93 d_Model_ship_93 ?_
                  obtain ⟨I94, e94, h⟩ := ob_el h
                  refine gg_Vv (As := [.int x2, .int (I (R a0 4) x1.toNatClampNeg)]) (rest := []) (ci := 5) (C := R_Model) (T := F_Model) (N := 23) ⟨hx, hb, hml, hown, hall⟩ (c_Model_raise l hT o0 e94) (cwV 2 hall (gV m_402 m_403 m_404 m_338 m_379) rfl rfl rfl (by decide +kernel) ⟨Nat.le_of_ble_eq_true rfl, Nat.le_of_ble_eq_true rfl⟩) hK hP hS o0.1 (wE_5 o0.2) rfl rfl hl.1 rfl (Nat.le_of_ble_eq_true rfl) d_Model_ship_94 (fun H locs hP hS => ?_)
                  refine lv_aload_n hx hb d_Model_ship_97 rfl (lv_at hl 0 rfl) ?_
                  refine lv_iload_n hx hb d_Model_ship_98 rfl (lv_at hl 1 rfl) ?_
                  refine lv_iload_n hx hb d_Model_ship_99 rfl (lv_at hl 2 rfl) ?_
                  obtain ⟨v100, e100, h⟩ := ob_el h
                  refine gg_Vi (As := [.int x1, .int x2]) (rest := []) (ci := 5) (C := R_Model) (T := F_Model) (N := 23) ⟨hx, hb, hml, hown, hall⟩ (c_Model_alike l hT o0 e100) (cwV 2 hall (gV m_415 m_416 m_417 m_338 m_410) rfl rfl rfl (by decide +kernel) ⟨Nat.le_of_ble_eq_true rfl, Nat.le_of_ble_eq_true rfl⟩) hK hP hS o0.1 (wE_5 o0.2) rfl rfl hl.1 rfl (Nat.le_of_ble_eq_true rfl) d_Model_ship_100 (fun H locs hP hS => ?_)
                  refine lv_istore_n (lv' := [(3, .int v100), (0, .ref a0), (1, .int x1), (2, .int x2)]) hx hb d_Model_ship_103 rfl hl (Nat.le_of_ble_eq_true rfl) rfl (fun ls hl => ?_)
                  refine lv_aload_n hx hb d_Model_ship_104 rfl (lv_at hl 1 rfl) ?_
                  refine gg_get (C := R_Model) (T := F_Model) (N := 23) (ci := 5) hx hb hall i_Model hown hK hP o0.1 (wE_5 o0.2) rfl 9 (by decide) (hall _ m_366) (fun _ h9 => h9) rfl d_Model_ship_105 ?_
                  have o_105 : okA g 6 6 (R a0 9) := ty_Model_9 hT o0
                  refine lv_iload_n hx hb d_Model_ship_108 rfl (lv_at hl 3 rfl) ?_
                  refine lv_iload_n hx hb d_Model_ship_109 rfl (lv_at hl 0 rfl) ?_
                  obtain ⟨hi110, h⟩ := chk_el h
                  refine gg_iast hx hb hT.1 hK hP hS o_105 hi110 d_Model_ship_110 (fun I110 H locs e110 hP hS => ?_)
                  replace h := ap_el e110 h
                  refine lv_iload_n hx hb d_Model_ship_111 rfl (lv_at hl 0 rfl) ?_
                  refine lv_aload_n hx hb d_Model_ship_112 rfl (lv_at hl 1 rfl) ?_
                  refine gg_get (C := R_Model) (T := F_Model) (N := 23) (ci := 5) hx hb hall i_Model hown hK hP o0.1 (wE_5 o0.2) rfl 9 (by decide) (hall _ m_366) (fun _ h9 => h9) rfl d_Model_ship_113 ?_
                  have o_113 : okA g 6 6 (R a0 9) := ty_Model_9 hT o0
                  refine lv_iload_n hx hb d_Model_ship_116 rfl (lv_at hl 2 rfl) ?_
                  obtain ⟨hi117, h⟩ := chk_el h
                  refine gg_iald hx hb hK hP o_113 hi117 d_Model_ship_117 ?_
                  refine lv_icmp_ge hx hb d_Model_ship_118 rfl (fun hc => ?_) (fun hc => ?_)
                  · replace h := i_pos hc h
                    exact b_Model_ship_180 cx _ _ _ _ _ _ _ o0 h hP hS (lv_sub hl [1, 2, 3] rfl)
                  · replace h := i_neg hc h
                    refine lv_bipush (v := 60) hx hb d_Model_ship_121 (by decide) ?_
                    refine lv_iload_n hx hb d_Model_ship_123 rfl (lv_at hl 2 rfl) ?_
                    refine lv_imul hx hb d_Model_ship_124 ?_
                    refine lv_iload_n hx hb d_Model_ship_125 rfl (lv_at hl 0 rfl) ?_
                    refine lv_iadd hx hb d_Model_ship_126 ?_
                    refine lv_istore (lv' := [(4, .int (((60 : Int32) * x1) + v100)), (3, .int v100), (0, .ref a0), (1, .int x1), (2, .int x2)]) hx hb d_Model_ship_127 hl (Nat.le_of_ble_eq_true rfl) rfl (fun ls hl => ?_)
                    refine lv_aload_n hx hb d_Model_ship_129 rfl (lv_at hl 2 rfl) ?_
                    refine lv_iload_n hx hb d_Model_ship_130 rfl (lv_at hl 4 rfl) ?_
                    refine lv_aload_n hx hb d_Model_ship_131 rfl (lv_at hl 2 rfl) ?_
                    refine gg_get (C := R_Model) (T := F_Model) (N := 23) (ci := 5) hx hb hall i_Model hown hK hP o0.1 (wE_5 o0.2) rfl 13 (by decide) (hall _ m_364) (fun _ h9 => h9) rfl d_Model_ship_132 ?_
                    have o_132 : okA g 6 360 (R a0 13) := ty_Model_13 hT o0
                    refine lv_iload hx hb d_Model_ship_135 (lv_at hl 0 rfl) ?_
                    obtain ⟨hi137, h⟩ := chk_el h
                    refine gg_iald hx hb hK hP o_132 hi137 d_Model_ship_137 ?_
                    refine lv_aload_n hx hb d_Model_ship_138 rfl (lv_at hl 2 rfl) ?_
                    refine gg_get (C := R_Model) (T := F_Model) (N := 23) (ci := 5) hx hb hall i_Model hown hK hP o0.1 (wE_5 o0.2) rfl 14 (by decide) (hall _ m_370) (fun _ h9 => h9) rfl d_Model_ship_139 ?_
                    have o_139 : okA g 6 360 (R a0 14) := ty_Model_14 hT o0
                    refine lv_iload hx hb d_Model_ship_142 (lv_at hl 0 rfl) ?_
                    obtain ⟨hi144, h⟩ := chk_el h
                    refine gg_iald hx hb hK hP o_139 hi144 d_Model_ship_144 ?_
                    refine lv_aload_n hx hb d_Model_ship_145 rfl (lv_at hl 2 rfl) ?_
                    refine gg_get (C := R_Model) (T := F_Model) (N := 23) (ci := 5) hx hb hall i_Model hown hK hP o0.1 (wE_5 o0.2) rfl 15 (by decide) (hall _ m_365) (fun _ h9 => h9) rfl d_Model_ship_146 ?_
                    have o_146 : okA g 6 360 (R a0 15) := ty_Model_15 hT o0
                    refine lv_iload hx hb d_Model_ship_149 (lv_at hl 0 rfl) ?_
                    obtain ⟨hi151, h⟩ := chk_el h
                    refine gg_iald hx hb hK hP o_146 hi151 d_Model_ship_151 ?_
                    refine lv_aload_n hx hb d_Model_ship_152 rfl (lv_at hl 2 rfl) ?_
                    refine gg_get (C := R_Model) (T := F_Model) (N := 23) (ci := 5) hx hb hall i_Model hown hK hP o0.1 (wE_5 o0.2) rfl 12 (by decide) (hall _ m_367) (fun _ h9 => h9) rfl d_Model_ship_153 ?_
                    have o_153 : okA g 6 360 (R a0 12) := ty_Model_12 hT o0
                    refine lv_iload hx hb d_Model_ship_156 (lv_at hl 0 rfl) ?_
                    obtain ⟨hi158, h⟩ := chk_el h
                    refine gg_iald hx hb hK hP o_153 hi158 d_Model_ship_158 ?_
                    obtain ⟨I159, e159, h⟩ := ob_el h
                    refine gg_Vv (As := [.int x2, .int (I110 (R a0 13) (((60 : Int32) * x1) + v100).toNatClampNeg), .int (I110 (R a0 14) (((60 : Int32) * x1) + v100).toNatClampNeg), .int (I110 (R a0 15) (((60 : Int32) * x1) + v100).toNatClampNeg), .int (I110 (R a0 12) (((60 : Int32) * x1) + v100).toNatClampNeg)]) (rest := []) (ci := 5) (C := R_Model) (T := F_Model) (N := 23) ⟨hx, hb, hml, hown, hall⟩ (c_Model_put l hT o0 e159) (cwV 5 hall (gV m_396 m_397 m_398 m_338 m_371) rfl rfl rfl (by decide +kernel) ⟨Nat.le_of_ble_eq_true rfl, Nat.le_of_ble_eq_true rfl⟩) hK hP hS o0.1 (wE_5 o0.2) rfl rfl hl.1 rfl (Nat.le_of_ble_eq_true rfl) d_Model_ship_159 (fun H locs hP hS => ?_)
                    refine lv_aload_n hx hb d_Model_ship_162 rfl (lv_at hl 2 rfl) ?_
                    refine gg_get (C := R_Model) (T := F_Model) (N := 23) (ci := 5) hx hb hall i_Model hown hK hP o0.1 (wE_5 o0.2) rfl 11 (by decide) (hall _ m_353) (fun _ h9 => h9) rfl d_Model_ship_163 ?_
                    have o_163 : okA g 6 360 (R a0 11) := ty_Model_11 hT o0
                    refine lv_bipush (v := 60) hx hb d_Model_ship_166 (by decide) ?_
                    refine lv_iload_n hx hb d_Model_ship_168 rfl (lv_at hl 4 rfl) ?_
                    refine lv_imul hx hb d_Model_ship_169 ?_
                    refine lv_iload_n hx hb d_Model_ship_170 rfl (lv_at hl 1 rfl) ?_
                    refine lv_iadd hx hb d_Model_ship_171 ?_
                    refine lv_aload_n hx hb d_Model_ship_172 rfl (lv_at hl 2 rfl) ?_
                    refine gg_get (C := R_Model) (T := F_Model) (N := 23) (ci := 5) hx hb hall i_Model hown hK hP o0.1 (wE_5 o0.2) rfl 11 (by decide) (hall _ m_353) (fun _ h9 => h9) rfl d_Model_ship_173 ?_
                    have o_173 : okA g 6 360 (R a0 11) := ty_Model_11 hT o0
                    refine lv_iload hx hb d_Model_ship_176 (lv_at hl 0 rfl) ?_
                    obtain ⟨hi178, h⟩ := chk_el h
                    refine gg_iald hx hb hK hP o_173 hi178 d_Model_ship_178 ?_
                    obtain ⟨hi179, h⟩ := chk_el h
                    refine gg_iast hx hb hT.1 hK hP hS o_163 hi179 d_Model_ship_179 (fun I179 H locs e179 hP hS => ?_)
                    replace h := ap_el e179 h
                    exact b_Model_ship_180 cx _ _ _ _ _ _ _ o0 h hP hS (lv_sub hl [2, 3, 4] rfl)
                · replace h := i_neg hc h
                  refine lv_aload_n hx hb d_Model_ship_76 rfl (lv_at hl 0 rfl) ?_
                  refine gg_get (C := R_Model) (T := F_Model) (N := 23) (ci := 5) hx hb hall i_Model hown hK hP o0.1 (wE_5 o0.2) rfl 7 (by decide) (hall _ m_341) (fun _ h9 => h9) rfl d_Model_ship_77 ?_
                  have o_77 : okA g 7 6 (R a0 7) := ty_Model_7 hT o0
                  refine lv_iload_n hx hb d_Model_ship_80 rfl (lv_at hl 1 rfl) ?_
                  refine lv_iconst (v := 0) hx hb d_Model_ship_81 (by decide) ?_
                  obtain ⟨hi82, h⟩ := chk_el h
                  refine gg_zast hx hb hT.1 hK hP hS o_77 hi82 d_Model_ship_82 (fun I82 H locs e82 hP hS => ?_)
                  replace h := ap_el e82 h
                  refine lv_bipush (v := (-5)) hx hb d_Model_ship_83 (by decide) ?_
                  obtain ⟨rfl, rfl⟩ := rt_el h
                  exact gg_iret hx hb hr hlk hK hP hS d_Model_ship_85
              · replace h := i_pos hc h
                exact b_Model_ship_59 cx _ _ _ _ h hP hS (lv_sub hl [] rfl)
end
