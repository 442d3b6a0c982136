section
abbrev b_Model_abort : ByteArray := prog_7_method_42_code
def y_Model_abort : MethodName := ⟨"StampedStoreModel", "abort", "(I)Z"⟩
def w_Model_abort : List Cond := .code y_Model_abort b_Model_abort 2 (some .boolean) :: w_all
theorem d_Model_abort_0 : decode b_Model_abort 0 = .ok (.iload_n 1, 1) := by decide +kernel
theorem d_Model_abort_1 : decode b_Model_abort 1 = .ok (.aload_n 0, 1) := by decide +kernel
theorem d_Model_abort_2 : decode b_Model_abort 2 = .ok (.getfield 135, 3) := by decide +kernel
theorem d_Model_abort_5 : decode b_Model_abort 5 = .ok (.invokestatic 78, 3) := by decide +kernel
theorem d_Model_abort_8 : decode b_Model_abort 8 = .ok (.ifCond .eq 12, 3) := by decide +kernel
theorem d_Model_abort_11 : decode b_Model_abort 11 = .ok (.aload_n 0, 1) := by decide +kernel
theorem d_Model_abort_12 : decode b_Model_abort 12 = .ok (.getfield 53, 3) := by decide +kernel
theorem d_Model_abort_15 : decode b_Model_abort 15 = .ok (.iload_n 1, 1) := by decide +kernel
theorem d_Model_abort_16 : decode b_Model_abort 16 = .ok (.iaload, 1) := by decide +kernel
theorem d_Model_abort_17 : decode b_Model_abort 17 = .ok (.ifCond .eq 5, 3) := by decide +kernel
theorem d_Model_abort_20 : decode b_Model_abort 20 = .ok (.iconst 0, 1) := by decide +kernel
theorem d_Model_abort_21 : decode b_Model_abort 21 = .ok (.ireturn, 1) := by decide +kernel
theorem d_Model_abort_22 : decode b_Model_abort 22 = .ok (.aload_n 0, 1) := by decide +kernel
theorem d_Model_abort_23 : decode b_Model_abort 23 = .ok (.getfield 53, 3) := by decide +kernel
theorem d_Model_abort_26 : decode b_Model_abort 26 = .ok (.iload_n 1, 1) := by decide +kernel
theorem d_Model_abort_27 : decode b_Model_abort 27 = .ok (.iconst 4, 1) := by decide +kernel
theorem d_Model_abort_28 : decode b_Model_abort 28 = .ok (.iastore, 1) := by decide +kernel
theorem d_Model_abort_29 : decode b_Model_abort 29 = .ok (.iconst 1, 1) := by decide +kernel
theorem d_Model_abort_30 : decode b_Model_abort 30 = .ok (.ireturn, 1) := by decide +kernel
def B_Model_abort_20 (R : Nat → Nat → Nat) (I : St) : Option (Int32 × St) := some ((0 : Int32), I)
set_option maxHeartbeats 4000000 in
set_option maxRecDepth 100000 in
theorem b_Model_abort_20 {p : Program} {l : Launch} {e : Env} {s : State} {m : MethodId} {args : Array Value} {below : List Frame} {meth : Method} {c : Code} {g : Sg} {R : Nat → Nat → Nat} {J : St} {v : Int32} (cx : Cx p s m args meth c g R R_Model b_Model_abort 2 (some .boolean)) : ∀ (I : St) (H : Heap) (locs : List Loc) (ls : Array Slot), B_Model_abort_20 R I = some (v, J) → wW g R I H → va_S (· ∈ g.L) s.heap H locs → lv_has ls 2 [] → W p l e { frames := 1, cells := 0, slots := 0, locals := 21 } s m args below meth c H locs 0 0 (MQ below (Qi g R v J) args s 0 0 (· ∈ g.L)) (F0 m 20 ls []) := by
  have ⟨hx, hb, hml, hr, hlk, hown, hall, hT, hK⟩ := cx
  intro I H locs ls h hP hS hl
  unfold B_Model_abort_20 at h
  refine lv_iconst (v := 0) hx hb d_Model_abort_20 (by decide) ?_
  obtain ⟨rfl, rfl⟩ := rt_el h
  exact gg_zret hx hb hr hlk rfl hK hP hS d_Model_abort_21
def F_Model_abort (R : Nat → Nat → Nat) (a0 : Nat) (x1 : Int32) (I : St) : Option (Int32 × St) := (ob (F_Model_below R x1 (I a0 16) I) (fun v5 => (if v5 = 0 then B_Model_abort_20 R I else (chk x1 16 ((if (I (R a0 17) x1.toNatClampNeg) = 0 then (chk x1 16 (ap (up2 I (R a0 17) x1.toNatClampNeg (4 : Int32)) (fun I28 => some ((1 : Int32), I28)))) else B_Model_abort_20 R I))))))
set_option maxHeartbeats 4000000 in
set_option maxRecDepth 100000 in
theorem c_Model_abort (l : Launch) {g : Sg} {R : Nat → Nat → Nat} (hT : Ty g R) {a0 : Nat} (o0 : okA g 5 0 a0) {x1 : Int32} {I : St} {J : St} {v : Int32} (h : F_Model_abort R a0 x1 I = some (v, J)) : Cti l g R y_Model_abort w_Model_abort 1 21 [.ref a0, .int x1] I v J := by
  unfold Cti
  refine Met.ofW (cc := b_Model_abort) (maxL := 2) (ret := (some .boolean)) (by decide) rfl ?_
  intro p e s m args below meth c s₁ B hml hv
  obtain ⟨rfl, hP, hK⟩ := hv
  have hts := atoms_spec (ws := w_Model_abort) B.pre
  have hall : ∀ w ∈ w_all, w.before _ s = true := fun w hw => hts w (List.mem_cons_of_mem _ hw)
  have hown : s.vm.findClass R_Model = some m.cls := findClass_of_methodNamed B.named
  have hx := B.exec
  have hb := B.bytes
  have hr := B.returns
  have hlk := B.notSynchronized
  have cx : Cx p s m _ meth c g R R_Model b_Model_abort 2 (some .boolean) := ⟨hx, hb, hml, hr, hlk, hown, hall, hT, hK⟩
  have hl := lv_entry ([.ref a0, .int x1]) (n := 2) (Nat.le_of_ble_eq_true rfl)
  rw [lg_entry_eq]
  generalize (lg_sl ([.ref a0, .int x1]) ++ List.replicate (2 - (lg_sl ([.ref a0, .int x1])).length) Slot.unset).toArray = ls at hl ⊢
  have hl : lv_has ls 2 [(0, .ref a0), (1, .int x1)] := hl
  have hS : va_S (· ∈ g.L) s.heap s.heap [] := va_S.rf
  unfold F_Model_abort at h
  refine lv_iload_n hx hb d_Model_abort_0 rfl (lv_at hl 1 rfl) ?_
  refine lv_aload_n hx hb d_Model_abort_1 rfl (lv_at hl 0 rfl) ?_
  refine gg_get (C := R_Model) (T := F_Model) (N := 23) (ci := 5) hx hb hall i_Model hown hK hP o0.1 (wE_5 o0.2) rfl 16 (by decide) (hall _ m_419) (fun _ h9 => h9) rfl d_Model_abort_2 ?_
  obtain ⟨v5, e5, h⟩ := ob_el h
  refine gg_Si (As := [.int x1, .int (I a0 16)]) (rest := []) ⟨hx, hb, hml, hown, hall⟩ (c_Model_below l hT e5) (cwS 2 hall (gS m_336 m_337 m_338 m_329) rfl rfl rfl (by decide +kernel) ⟨Nat.le_of_ble_eq_true rfl, Nat.le_of_ble_eq_true rfl⟩) hK hP hS rfl hl.1 rfl (Nat.le_of_ble_eq_true rfl) d_Model_abort_5 (fun H locs hP hS => ?_)
  refine lv_if_eq hx hb d_Model_abort_8 rfl (fun hc => ?_) (fun hc => ?_)
  · replace h := i_pos hc h
    exact b_Model_abort_20 cx _ _ _ _ h hP hS (lv_sub hl [] rfl)
  · replace h := i_neg hc h
    refine lv_aload_n hx hb d_Model_abort_11 rfl (lv_at hl 0 rfl) ?_
    refine gg_get (C := R_Model) (T := F_Model) (N := 23) (ci := 5) hx hb hall i_Model hown hK hP o0.1 (wE_5 o0.2) rfl 17 (by decide) (hall _ m_449) (fun _ h9 => h9) rfl d_Model_abort_12 ?_
    have o_12 : okA g 6 16 (R a0 17) := ty_Model_17 hT o0
    refine lv_iload_n hx hb d_Model_abort_15 rfl (lv_at hl 1 rfl) ?_
    obtain ⟨hi16, h⟩ := chk_el h
    refine gg_iald hx hb hK hP o_12 hi16 d_Model_abort_16 ?_
    refine lv_if_eq hx hb d_Model_abort_17 rfl (fun hc => ?_) (fun hc => ?_)
    · replace h := i_pos hc h
      refine lv_aload_n hx hb d_Model_abort_22 rfl (lv_at hl 0 rfl) ?_
      refine gg_get (C := R_Model) (T := F_Model) (N := 23) (ci := 5) hx hb hall i_Model hown hK hP o0.1 (wE_5 o0.2) rfl 17 (by decide) (hall _ m_449) (fun _ h9 => h9) rfl d_Model_abort_23 ?_
      have o_23 : okA g 6 16 (R a0 17) := ty_Model_17 hT o0
      refine lv_iload_n hx hb d_Model_abort_26 rfl (lv_at hl 1 rfl) ?_
      refine lv_iconst (v := 4) hx hb d_Model_abort_27 (by decide) ?_
      obtain ⟨hi28, h⟩ := chk_el h
      refine gg_iast hx hb hT.1 hK hP hS o_23 hi28 d_Model_abort_28 (fun I28 H locs e28 hP hS => ?_)
      replace h := ap_el e28 h
      refine lv_iconst (v := 1) hx hb d_Model_abort_29 (by decide) ?_
      obtain ⟨rfl, rfl⟩ := rt_el h
      exact gg_zret hx hb hr hlk rfl hK hP hS d_Model_abort_30
    · replace h := i_neg hc h
      exact b_Model_abort_20 cx _ _ _ _ h hP hS (lv_sub hl [] rfl)
abbrev b_Model_prepared : ByteArray := prog_7_method_43_code
def y_Model_prepared : MethodName := ⟨"StampedStoreModel", "prepared", "(I)I"⟩
def w_Model_prepared : List Cond := .code y_Model_prepared b_Model_prepared 7 (some .int) :: w_all
theorem d_Model_prepared_0 : decode b_Model_prepared 0 = .ok (.aload_n 0, 1) := by decide +kernel
theorem d_Model_prepared_1 : decode b_Model_prepared 1 = .ok (.iconst 0, 1) := by decide +kernel
theorem d_Model_prepared_2 : decode b_Model_prepared 2 = .ok (.invokevirtual 93, 3) := by decide +kernel
theorem d_Model_prepared_5 : decode b_Model_prepared 5 = .ok (.istore_n 2, 1) := by decide +kernel
theorem d_Model_prepared_6 : decode b_Model_prepared 6 = .ok (.aload_n 0, 1) := by decide +kernel
theorem d_Model_prepared_7 : decode b_Model_prepared 7 = .ok (.iconst 1, 1) := by decide +kernel
theorem d_Model_prepared_8 : decode b_Model_prepared 8 = .ok (.invokevirtual 93, 3) := by decide +kernel
theorem d_Model_prepared_11 : decode b_Model_prepared 11 = .ok (.istore_n 3, 1) := by decide +kernel
theorem d_Model_prepared_12 : decode b_Model_prepared 12 = .ok (.iload_n 2, 1) := by decide +kernel
theorem d_Model_prepared_13 : decode b_Model_prepared 13 = .ok (.ifCond .lt 7, 3) := by decide +kernel
theorem d_Model_prepared_16 : decode b_Model_prepared 16 = .ok (.iload_n 3, 1) := by decide +kernel
theorem d_Model_prepared_17 : decode b_Model_prepared 17 = .ok (.ifCond .ge 6, 3) := by decide +kernel
theorem d_Model_prepared_20 : decode b_Model_prepared 20 = .ok (.bipush (-3), 2) := by decide +kernel
theorem d_Model_prepared_22 : decode b_Model_prepared 22 = .ok (.ireturn, 1) := by decide +kernel
theorem d_Model_prepared_23 : decode b_Model_prepared 23 = .ok (.aload_n 0, 1) := by decide +kernel
theorem d_Model_prepared_24 : decode b_Model_prepared 24 = .ok (.iload_n 2, 1) := by decide +kernel
theorem d_Model_prepared_25 : decode b_Model_prepared 25 = .ok (.iload_n 1, 1) := by decide +kernel
theorem d_Model_prepared_26 : decode b_Model_prepared 26 = .ok (.iconst 1, 1) := by decide +kernel
theorem d_Model_prepared_27 : decode b_Model_prepared 27 = .ok (.invokevirtual 144, 3) := by decide +kernel
theorem d_Model_prepared_30 : decode b_Model_prepared 30 = .ok (.ifCond .eq 13, 3) := by decide +kernel
theorem d_Model_prepared_33 : decode b_Model_prepared 33 = .ok (.aload_n 0, 1) := by decide +kernel
theorem d_Model_prepared_34 : decode b_Model_prepared 34 = .ok (.iload_n 3, 1) := by decide +kernel
theorem d_Model_prepared_35 : decode b_Model_prepared 35 = .ok (.iload_n 1, 1) := by decide +kernel
theorem d_Model_prepared_36 : decode b_Model_prepared 36 = .ok (.iconst 1, 1) := by decide +kernel
theorem d_Model_prepared_37 : decode b_Model_prepared 37 = .ok (.invokevirtual 144, 3) := by decide +kernel
theorem d_Model_prepared_40 : decode b_Model_prepared 40 = .ok (.ifCond .ne 12, 3) := by decide +kernel
theorem d_Model_prepared_43 : decode b_Model_prepared 43 = .ok (.aload_n 0, 1) := by decide +kernel
theorem d_Model_prepared_44 : decode b_Model_prepared 44 = .ok (.getfield 53, 3) := by decide +kernel
theorem d_Model_prepared_47 : decode b_Model_prepared 47 = .ok (.iload_n 1, 1) := by decide +kernel
theorem d_Model_prepared_48 : decode b_Model_prepared 48 = .ok (.iconst 4, 1) := by decide +kernel
theorem d_Model_prepared_49 : decode b_Model_prepared 49 = .ok (.iastore, 1) := by decide +kernel
theorem d_Model_prepared_50 : decode b_Model_prepared 50 = .ok (.iconst 4, 1) := by decide +kernel
theorem d_Model_prepared_51 : decode b_Model_prepared 51 = .ok (.ireturn, 1) := by decide +kernel
theorem d_Model_prepared_52 : decode b_Model_prepared 52 = .ok (.aload_n 0, 1) := by decide +kernel
theorem d_Model_prepared_53 : decode b_Model_prepared 53 = .ok (.iload_n 2, 1) := by decide +kernel
theorem d_Model_prepared_54 : decode b_Model_prepared 54 = .ok (.iload_n 1, 1) := by decide +kernel
theorem d_Model_prepared_55 : decode b_Model_prepared 55 = .ok (.iconst 1, 1) := by decide +kernel
theorem d_Model_prepared_56 : decode b_Model_prepared 56 = .ok (.invokevirtual 147, 3) := by decide +kernel
theorem d_Model_prepared_59 : decode b_Model_prepared 59 = .ok (.ifCond .eq 13, 3) := by decide +kernel
theorem d_Model_prepared_62 : decode b_Model_prepared 62 = .ok (.aload_n 0, 1) := by decide +kernel
theorem d_Model_prepared_63 : decode b_Model_prepared 63 = .ok (.iload_n 3, 1) := by decide +kernel
theorem d_Model_prepared_64 : decode b_Model_prepared 64 = .ok (.iload_n 1, 1) := by decide +kernel
theorem d_Model_prepared_65 : decode b_Model_prepared 65 = .ok (.iconst 1, 1) := by decide +kernel
theorem d_Model_prepared_66 : decode b_Model_prepared 66 = .ok (.invokevirtual 147, 3) := by decide +kernel
theorem d_Model_prepared_69 : decode b_Model_prepared 69 = .ok (.ifCond .ne 5, 3) := by decide +kernel
theorem d_Model_prepared_72 : decode b_Model_prepared 72 = .ok (.iconst 1, 1) := by decide +kernel
theorem d_Model_prepared_73 : decode b_Model_prepared 73 = .ok (.ireturn, 1) := by decide +kernel
theorem d_Model_prepared_74 : decode b_Model_prepared 74 = .ok (.aload_n 0, 1) := by decide +kernel
theorem d_Model_prepared_75 : decode b_Model_prepared 75 = .ok (.iload_n 2, 1) := by decide +kernel
theorem d_Model_prepared_76 : decode b_Model_prepared 76 = .ok (.invokevirtual 118, 3) := by decide +kernel
theorem d_Model_prepared_79 : decode b_Model_prepared 79 = .ok (.istore 4, 2) := by decide +kernel
theorem d_Model_prepared_81 : decode b_Model_prepared 81 = .ok (.aload_n 0, 1) := by decide +kernel
theorem d_Model_prepared_82 : decode b_Model_prepared 82 = .ok (.getfield 41, 3) := by decide +kernel
theorem d_Model_prepared_85 : decode b_Model_prepared 85 = .ok (.bipush 60, 2) := by decide +kernel
theorem d_Model_prepared_87 : decode b_Model_prepared 87 = .ok (.iload_n 3, 1) := by decide +kernel
theorem d_Model_prepared_88 : decode b_Model_prepared 88 = .ok (.imul, 1) := by decide +kernel
theorem d_Model_prepared_89 : decode b_Model_prepared 89 = .ok (.aload_n 0, 1) := by decide +kernel
theorem d_Model_prepared_90 : decode b_Model_prepared 90 = .ok (.iload_n 3, 1) := by decide +kernel
theorem d_Model_prepared_91 : decode b_Model_prepared 91 = .ok (.iload_n 1, 1) := by decide +kernel
theorem d_Model_prepared_92 : decode b_Model_prepared 92 = .ok (.iconst 1, 1) := by decide +kernel
theorem d_Model_prepared_93 : decode b_Model_prepared 93 = .ok (.aload_n 0, 1) := by decide +kernel
theorem d_Model_prepared_94 : decode b_Model_prepared 94 = .ok (.getfield 32, 3) := by decide +kernel
theorem d_Model_prepared_97 : decode b_Model_prepared 97 = .ok (.iload_n 3, 1) := by decide +kernel
theorem d_Model_prepared_98 : decode b_Model_prepared 98 = .ok (.iaload, 1) := by decide +kernel
theorem d_Model_prepared_99 : decode b_Model_prepared 99 = .ok (.invokevirtual 96, 3) := by decide +kernel
theorem d_Model_prepared_102 : decode b_Model_prepared 102 = .ok (.iadd, 1) := by decide +kernel
theorem d_Model_prepared_103 : decode b_Model_prepared 103 = .ok (.iaload, 1) := by decide +kernel
theorem d_Model_prepared_104 : decode b_Model_prepared 104 = .ok (.istore 5, 2) := by decide +kernel
theorem d_Model_prepared_106 : decode b_Model_prepared 106 = .ok (.iload 5, 2) := by decide +kernel
theorem d_Model_prepared_108 : decode b_Model_prepared 108 = .ok (.iload 4, 2) := by decide +kernel
theorem d_Model_prepared_110 : decode b_Model_prepared 110 = .ok (.if_icmp .le 8, 3) := by decide +kernel
theorem d_Model_prepared_113 : decode b_Model_prepared 113 = .ok (.iload 5, 2) := by decide +kernel
theorem d_Model_prepared_115 : decode b_Model_prepared 115 = .ok (.goto 5, 3) := by decide +kernel
theorem d_Model_prepared_118 : decode b_Model_prepared 118 = .ok (.iload 4, 2) := by decide +kernel
theorem d_Model_prepared_120 : decode b_Model_prepared 120 = .ok (.istore 4, 2) := by decide +kernel
theorem d_Model_prepared_122 : decode b_Model_prepared 122 = .ok (.aload_n 0, 1) := by decide +kernel
theorem d_Model_prepared_123 : decode b_Model_prepared 123 = .ok (.iload_n 2, 1) := by decide +kernel
theorem d_Model_prepared_124 : decode b_Model_prepared 124 = .ok (.iload 4, 2) := by decide +kernel
theorem d_Model_prepared_126 : decode b_Model_prepared 126 = .ok (.invokevirtual 121, 3) := by decide +kernel
theorem d_Model_prepared_129 : decode b_Model_prepared 129 = .ok (.istore 6, 2) := by decide +kernel
theorem d_Model_prepared_131 : decode b_Model_prepared 131 = .ok (.iload 6, 2) := by decide +kernel
theorem d_Model_prepared_133 : decode b_Model_prepared 133 = .ok (.ifCond .ge 6, 3) := by decide +kernel
theorem d_Model_prepared_136 : decode b_Model_prepared 136 = .ok (.iload 6, 2) := by decide +kernel
theorem d_Model_prepared_138 : decode b_Model_prepared 138 = .ok (.ireturn, 1) := by decide +kernel
theorem d_Model_prepared_139 : decode b_Model_prepared 139 = .ok (.aload_n 0, 1) := by decide +kernel
theorem d_Model_prepared_140 : decode b_Model_prepared 140 = .ok (.iload_n 2, 1) := by decide +kernel
theorem d_Model_prepared_141 : decode b_Model_prepared 141 = .ok (.iconst 2, 1) := by decide +kernel
theorem d_Model_prepared_142 : decode b_Model_prepared 142 = .ok (.iload_n 1, 1) := by decide +kernel
theorem d_Model_prepared_143 : decode b_Model_prepared 143 = .ok (.iconst (-1), 1) := by decide +kernel
theorem d_Model_prepared_144 : decode b_Model_prepared 144 = .ok (.iload 4, 2) := by decide +kernel
theorem d_Model_prepared_146 : decode b_Model_prepared 146 = .ok (.invokevirtual 125, 3) := by decide +kernel
theorem d_Model_prepared_149 : decode b_Model_prepared 149 = .ok (.aload_n 0, 1) := by decide +kernel
theorem d_Model_prepared_150 : decode b_Model_prepared 150 = .ok (.getfield 53, 3) := by decide +kernel
theorem d_Model_prepared_153 : decode b_Model_prepared 153 = .ok (.iload_n 1, 1) := by decide +kernel
theorem d_Model_prepared_154 : decode b_Model_prepared 154 = .ok (.iconst 2, 1) := by decide +kernel
theorem d_Model_prepared_155 : decode b_Model_prepared 155 = .ok (.iastore, 1) := by decide +kernel
theorem d_Model_prepared_156 : decode b_Model_prepared 156 = .ok (.iconst 2, 1) := by decide +kernel
theorem d_Model_prepared_157 : decode b_Model_prepared 157 = .ok (.ireturn, 1) := by decide +kernel
def B_Model_prepared_20 (R : Nat → Nat → Nat) (I : St) : Option (Int32 × St) := some ((-3 : Int32), I)
set_option maxHeartbeats 4000000 in
set_option maxRecDepth 100000 in
theorem b_Model_prepared_20 {p : Program} {l : Launch} {e : Env} {s : State} {m : MethodId} {args : Array Value} {below : List Frame} {meth : Method} {c : Code} {g : Sg} {R : Nat → Nat → Nat} {J : St} {v : Int32} (cx : Cx p s m args meth c g R R_Model b_Model_prepared 7 (some .int)) : ∀ (I : St) (H : Heap) (locs : List Loc) (ls : Array Slot), B_Model_prepared_20 R I = some (v, J) → wW g R I H → va_S (· ∈ g.L) s.heap H locs → lv_has ls 7 [] → W p l e { frames := 4, cells := 0, slots := 0, locals := 87 } s m args below meth c H locs 0 0 (MQ below (Qi g R v J) args s 0 0 (· ∈ g.L)) (F0 m 20 ls []) := by
  have ⟨hx, hb, hml, hr, hlk, hown, hall, hT, hK⟩ := cx
  intro I H locs ls h hP hS hl
  unfold B_Model_prepared_20 at h
  refine lv_bipush (v := (-3)) hx hb d_Model_prepared_20 (by decide) ?_
  obtain ⟨rfl, rfl⟩ := rt_el h
  exact gg_iret hx hb hr hlk hK hP hS d_Model_prepared_22
def B_Model_prepared_43 (R : Nat → Nat → Nat) (a0 : Nat) (x1 : Int32) (I : St) : Option (Int32 × St) := (chk x1 16 (ap (up2 I (R a0 17) x1.toNatClampNeg (4 : Int32)) (fun I49 => some ((4 : Int32), I49))))
set_option maxHeartbeats 4000000 in
set_option maxRecDepth 100000 in
theorem b_Model_prepared_43 {p : Program} {l : Launch} {e : Env} {s : State} {m : MethodId} {args : Array Value} {below : List Frame} {meth : Method} {c : Code} {g : Sg} {R : Nat → Nat → Nat} {J : St} {v : Int32} (cx : Cx p s m args meth c g R R_Model b_Model_prepared 7 (some .int)) : ∀ (a0 : Nat) (x1 : Int32) (I : St) (H : Heap) (locs : List Loc) (ls : Array Slot), okA g 5 0 a0 → B_Model_prepared_43 R a0 x1 I = some (v, J) → wW g R I H → va_S (· ∈ g.L) s.heap H locs → lv_has ls 7 [(0, .ref a0), (1, .int x1)] → W p l e { frames := 4, cells := 0, slots := 0, locals := 87 } s m args below meth c H locs 0 0 (MQ below (Qi g R v J) args s 0 0 (· ∈ g.L)) (F0 m 43 ls []) := by
  have ⟨hx, hb, hml, hr, hlk, hown, hall, hT, hK⟩ := cx
  intro a0 x1 I H locs ls o0 h hP hS hl
  unfold B_Model_prepared_43 at h
  refine lv_aload_n hx hb d_Model_prepared_43 rfl (lv_at hl 0 rfl) ?_
  refine gg_get (C := R_Model) (T := F_Model) (N := 23) (ci := 5) hx hb hall i_Model hown hK hP o0.1 (wE_5 o0.2) rfl 17 (by decide) (hall _ m_449) (fun _ h9 => h9) rfl d_Model_prepared_44 ?_
  have o_44 : okA g 6 16 (R a0 17) := ty_Model_17 hT o0
  refine lv_iload_n hx hb d_Model_prepared_47 rfl (lv_at hl 1 rfl) ?_
  refine lv_iconst (v := 4) hx hb d_Model_prepared_48 (by decide) ?_
  obtain ⟨hi49, h⟩ := chk_el h
  refine gg_iast hx hb hT.1 hK hP hS o_44 hi49 d_Model_prepared_49 (fun I49 H locs e49 hP hS => ?_)
  replace h := ap_el e49 h
  refine lv_iconst (v := 4) hx hb d_Model_prepared_50 (by decide) ?_
  obtain ⟨rfl, rfl⟩ := rt_el h
  exact gg_iret hx hb hr hlk hK hP hS d_Model_prepared_51
def B_Model_prepared_72 (R : Nat → Nat → Nat) (I : St) : Option (Int32 × St) := some ((1 : Int32), I)
set_option maxHeartbeats 4000000 in
set_option maxRecDepth 100000 in
theorem b_Model_prepared_72 {p : Program} {l : Launch} {e : Env} {s : State} {m : MethodId} {args : Array Value} {below : List Frame} {meth : Method} {c : Code} {g : Sg} {R : Nat → Nat → Nat} {J : St} {v : Int32} (cx : Cx p s m args meth c g R R_Model b_Model_prepared 7 (some .int)) : ∀ (I : St) (H : Heap) (locs : List Loc) (ls : Array Slot), B_Model_prepared_72 R I = some (v, J) → wW g R I H → va_S (· ∈ g.L) s.heap H locs → lv_has ls 7 [] → W p l e { frames := 4, cells := 0, slots := 0, locals := 87 } s m args below meth c H locs 0 0 (MQ below (Qi g R v J) args s 0 0 (· ∈ g.L)) (F0 m 72 ls []) := by
  have ⟨hx, hb, hml, hr, hlk, hown, hall, hT, hK⟩ := cx
  intro I H locs ls h hP hS hl
  unfold B_Model_prepared_72 at h
  refine lv_iconst (v := 1) hx hb d_Model_prepared_72 (by decide) ?_
  obtain ⟨rfl, rfl⟩ := rt_el h
  exact gg_iret hx hb hr hlk hK hP hS d_Model_prepared_73
def B_Model_prepared_120 (R : Nat → Nat → Nat) (a0 : Nat) (x1 : Int32) (x2 : Int32) (t0 : Int32) (I : St) : Option (Int32 × St) := (ob (F_Model_bars R a0 x2 t0 I) (fun v126 => (if 0 ≤ v126 then (ob (F_Model_put R a0 x2 (2 : Int32) x1 (-1 : Int32) t0 I) (fun I146 => (chk x1 16 (ap (up2 I146 (R a0 17) x1.toNatClampNeg (2 : Int32)) (fun I155 => some ((2 : Int32), I155)))))) else some (v126, I))))
set_option maxHeartbeats 4000000 in
set_option maxRecDepth 100000 in
theorem b_Model_prepared_120 {p : Program} {l : Launch} {e : Env} {s : State} {m : MethodId} {args : Array Value} {below : List Frame} {meth : Method} {c : Code} {g : Sg} {R : Nat → Nat → Nat} {J : St} {v : Int32} (cx : Cx p s m args meth c g R R_Model b_Model_prepared 7 (some .int)) : ∀ (a0 : Nat) (x1 : Int32) (x2 : Int32) (t0 : Int32) (I : St) (H : Heap) (locs : List Loc) (ls : Array Slot), okA g 5 0 a0 → B_Model_prepared_120 R a0 x1 x2 t0 I = some (v, J) → wW g R I H → va_S (· ∈ g.L) s.heap H locs → lv_has ls 7 [(0, .ref a0), (1, .int x1), (2, .int x2)] → W p l e { frames := 4, cells := 0, slots := 0, locals := 87 } s m args below meth c H locs 0 0 (MQ below (Qi g R v J) args s 0 0 (· ∈ g.L)) (F0 m 120 ls [.int t0]) := by
  have ⟨hx, hb, hml, hr, hlk, hown, hall, hT, hK⟩ := cx
  intro a0 x1 x2 t0 I H locs ls o0 h hP hS hl
  unfold B_Model_prepared_120 at h
  refine lv_istore (lv' := [(4, .int t0), (0, .ref a0), (1, .int x1), (2, .int x2)]) hx hb d_Model_prepared_120 hl (Nat.le_of_ble_eq_true rfl) rfl (fun ls hl => ?_)
  refine lv_aload_n hx hb d_Model_prepared_122 rfl (lv_at hl 1 rfl) ?_
  refine lv_iload_n hx hb d_Model_prepared_123 rfl (lv_at hl 3 rfl) ?_
  refine lv_iload hx hb d_Model_prepared_124 (lv_at hl 0 rfl) ?_
  obtain ⟨v126, e126, h⟩ := ob_el h
  refine gg_Vi (As := [.int x2, .int t0]) (rest := []) (ci := 5) (C := R_Model) (T := F_Model) (N := 23) ⟨hx, hb, hml, hown, hall⟩ (c_Model_bars l hT o0 e126) (cwV 2 hall (gV m_393 m_394 m_395 m_338 m_369) rfl rfl rfl (by decide +kernel) ⟨Nat.le_of_ble_eq_true rfl, Nat.le_of_ble_eq_true rfl⟩) hK hP hS o0.1 (wE_5 o0.2) rfl rfl hl.1 rfl (Nat.le_of_ble_eq_true rfl) d_Model_prepared_126 (fun H locs hP hS => ?_)
  refine lv_istore (lv' := [(6, .int v126), (4, .int t0), (0, .ref a0), (1, .int x1), (2, .int x2)]) hx hb d_Model_prepared_129 hl (Nat.le_of_ble_eq_true rfl) rfl (fun ls hl => ?_)
  refine lv_iload hx hb d_Model_prepared_131 (lv_at hl 0 rfl) ?_
  refine lv_if_ge hx hb d_Model_prepared_133 rfl (fun hc => ?_) (fun hc => ?_)
  · replace h := i_pos hc h
    refine lv_aload_n hx hb d_Model_prepared_139 rfl (lv_at hl 2 rfl) ?_
    refine lv_iload_n hx hb d_Model_prepared_140 rfl (lv_at hl 4 rfl) ?_
    refine lv_iconst (v := 2) hx hb d_Model_prepared_141 (by decide) ?_
    refine lv_iload_n hx hb d_Model_prepared_142 rfl (lv_at hl 3 rfl) ?_
    refine lv_iconst (v := (-1)) hx hb d_Model_prepared_143 (by decide) ?_
    refine lv_iload hx hb d_Model_prepared_144 (lv_at hl 1 rfl) ?_
    obtain ⟨I146, e146, h⟩ := ob_el h
    refine gg_Vv (As := [.int x2, .int (2 : Int32), .int x1, .int (-1 : Int32), .int t0]) (rest := []) (ci := 5) (C := R_Model) (T := F_Model) (N := 23) ⟨hx, hb, hml, hown, hall⟩ (c_Model_put l hT o0 e146) (cwV 5 hall (gV m_396 m_397 m_398 m_338 m_371) rfl rfl rfl (by decide +kernel) ⟨Nat.le_of_ble_eq_true rfl, Nat.le_of_ble_eq_true rfl⟩) hK hP hS o0.1 (wE_5 o0.2) rfl rfl hl.1 rfl (Nat.le_of_ble_eq_true rfl) d_Model_prepared_146 (fun H locs hP hS => ?_)
    refine lv_aload_n hx hb d_Model_prepared_149 rfl (lv_at hl 2 rfl) ?_
    refine gg_get (C := R_Model) (T := F_Model) (N := 23) (ci := 5) hx hb hall i_Model hown hK hP o0.1 (wE_5 o0.2) rfl 17 (by decide) (hall _ m_449) (fun _ h9 => h9) rfl d_Model_prepared_150 ?_
    have o_150 : okA g 6 16 (R a0 17) := ty_Model_17 hT o0
    refine lv_iload_n hx hb d_Model_prepared_153 rfl (lv_at hl 3 rfl) ?_
    refine lv_iconst (v := 2) hx hb d_Model_prepared_154 (by decide) ?_
    obtain ⟨hi155, h⟩ := chk_el h
    refine gg_iast hx hb hT.1 hK hP hS o_150 hi155 d_Model_prepared_155 (fun I155 H locs e155 hP hS => ?_)
    replace h := ap_el e155 h
    refine lv_iconst (v := 2) hx hb d_Model_prepared_156 (by decide) ?_
    obtain ⟨rfl, rfl⟩ := rt_el h
    exact gg_iret hx hb hr hlk hK hP hS d_Model_prepared_157
  · replace h := i_neg hc h
    refine lv_iload hx hb d_Model_prepared_136 (lv_at hl 0 rfl) ?_
    obtain ⟨rfl, rfl⟩ := rt_el h
    exact gg_iret hx hb hr hlk hK hP hS d_Model_prepared_138
def F_Model_prepared (R : Nat → Nat → Nat) (a0 : Nat) (x1 : Int32) (I : St) : Option (Int32 × St) := (ob (F_Model_ready R a0 (0 : Int32) I) (fun v2 => (ob (F_Model_ready R a0 (1 : Int32) I) (fun v8 => (if v2 < 0 then B_Model_prepared_20 R I else (if 0 ≤ v8 then (ob (F_Model_has R a0 v2 x1 (1 : Int32) I) (fun v27 => (if v27 = 0 then B_Model_prepared_43 R a0 x1 I else (ob (F_Model_has R a0 v8 x1 (1 : Int32) I) (fun v37 => (if v37 = 0 then B_Model_prepared_43 R a0 x1 I else (ob (F_Model_knows R a0 v2 x1 (1 : Int32) I) (fun v56 => (if v56 = 0 then B_Model_prepared_72 R I else (ob (F_Model_knows R a0 v8 x1 (1 : Int32) I) (fun v66 => (if v66 = 0 then B_Model_prepared_72 R I else (ob (F_Model_next R a0 v2 I) (fun v76 => (chk v8 6 ((ob (F_Model_find R a0 v8 x1 (1 : Int32) (I (R a0 9) v8.toNatClampNeg) I) (fun v99 => (chk (((60 : Int32) * v8) + v99) 360 ((if (I (R a0 12) (((60 : Int32) * v8) + v99).toNatClampNeg) ≤ v76 then B_Model_prepared_120 R a0 x1 v2 v76 I else B_Model_prepared_120 R a0 x1 v2 (I (R a0 12) (((60 : Int32) * v8) + v99).toNatClampNeg) I))))))))))))))))))))) else B_Model_prepared_20 R I))))))
set_option maxHeartbeats 4000000 in
set_option maxRecDepth 100000 in
theorem c_Model_prepared (l : Launch) {g : Sg} {R : Nat → Nat → Nat} (hT : Ty g R) {a0 : Nat} (o0 : okA g 5 0 a0) {x1 : Int32} {I : St} {J : St} {v : Int32} (h : F_Model_prepared R a0 x1 I = some (v, J)) : Cti l g R y_Model_prepared w_Model_prepared 4 87 [.ref a0, .int x1] I v J := by
  unfold Cti
  refine Met.ofW (cc := b_Model_prepared) (maxL := 7) (ret := (some .int)) (by decide) rfl ?_
  intro p e s m args below meth c s₁ B hml hv
  obtain ⟨rfl, hP, hK⟩ := hv
  have hts := atoms_spec (ws := w_Model_prepared) B.pre
  have hall : ∀ w ∈ w_all, w.before _ s = true := fun w hw => hts w (List.mem_cons_of_mem _ hw)
  have hown : s.vm.findClass R_Model = some m.cls := findClass_of_methodNamed B.named
  have hx := B.exec
  have hb := B.bytes
  have hr := B.returns
  have hlk := B.notSynchronized
  have cx : Cx p s m _ meth c g R R_Model b_Model_prepared 7 (some .int) := ⟨hx, hb, hml, hr, hlk, hown, hall, hT, hK⟩
  have hl := lv_entry ([.ref a0, .int x1]) (n := 7) (Nat.le_of_ble_eq_true rfl)
  rw [lg_entry_eq]
  generalize (lg_sl ([.ref a0, .int x1]) ++ List.replicate (7 - (lg_sl ([.ref a0, .int x1])).length) Slot.unset).toArray = ls at hl ⊢
  have hl : lv_has ls 7 [(0, .ref a0), (1, .int x1)] := hl
  have hS : va_S (· ∈ g.L) s.heap s.heap [] := va_S.rf
  unfold F_Model_prepared at h
  refine lv_aload_n hx hb d_Model_prepared_0 rfl (lv_at hl 0 rfl) ?_
  refine lv_iconst (v := 0) hx hb d_Model_prepared_1 (by decide) ?_
  obtain ⟨v2, e2, h⟩ := ob_el h
  refine gg_Vi (As := [.int (0 : Int32)]) (rest := []) (ci := 5) (C := R_Model) (T := F_Model) (N := 23) ⟨hx, hb, hml, hown, hall⟩ (c_Model_ready l hT o0 e2) (cwV 1 hall (gV m_360 m_361 m_362 m_338 m_359) rfl rfl rfl (by decide +kernel) ⟨Nat.le_of_ble_eq_true rfl, Nat.le_of_ble_eq_true rfl⟩) hK hP hS o0.1 (wE_5 o0.2) rfl rfl hl.1 rfl (Nat.le_of_ble_eq_true rfl) d_Model_prepared_2 (fun H locs hP hS => ?_)
  refine lv_istore_n (lv' := [(2, .int v2), (0, .ref a0), (1, .int x1)]) hx hb d_Model_prepared_5 rfl hl (Nat.le_of_ble_eq_true rfl) rfl (fun ls hl => ?_)
  refine lv_aload_n hx hb d_Model_prepared_6 rfl (lv_at hl 1 rfl) ?_
  refine lv_iconst (v := 1) hx hb d_Model_prepared_7 (by decide) ?_
  obtain ⟨v8, e8, h⟩ := ob_el h
  refine gg_Vi (As := [.int (1 : Int32)]) (rest := []) (ci := 5) (C := R_Model) (T := F_Model) (N := 23) ⟨hx, hb, hml, hown, hall⟩ (c_Model_ready l hT o0 e8) (cwV 1 hall (gV m_360 m_361 m_362 m_338 m_359) rfl rfl rfl (by decide +kernel) ⟨Nat.le_of_ble_eq_true rfl, Nat.le_of_ble_eq_true rfl⟩) hK hP hS o0.1 (wE_5 o0.2) rfl rfl hl.1 rfl (Nat.le_of_ble_eq_true rfl) d_Model_prepared_8 (fun H locs hP hS => ?_)
  refine lv_istore_n (lv' := [(3, .int v8), (2, .int v2), (0, .ref a0), (1, .int x1)]) hx hb d_Model_prepared_11 rfl hl (Nat.le_of_ble_eq_true rfl) rfl (fun ls hl => ?_)
  refine lv_iload_n hx hb d_Model_prepared_12 rfl (lv_at hl 1 rfl) ?_
  refine lv_if_lt hx hb d_Model_prepared_13 rfl (fun hc => ?_) (fun hc => ?_)
  · replace h := i_pos hc h
    exact b_Model_prepared_20 cx _ _ _ _ h hP hS (lv_sub hl [] rfl)
  · replace h := i_neg hc h
    refine lv_iload_n hx hb d_Model_prepared_16 rfl (lv_at hl 0 rfl) ?_
    refine lv_if_ge hx hb d_Model_prepared_17 rfl (fun hc => ?_) (fun hc => ?_)
    · replace h := i_pos hc h
      refine lv_aload_n hx hb d_Model_prepared_23 rfl (lv_at hl 2 rfl) ?_
      refine lv_iload_n hx hb d_Model_prepared_24 rfl (lv_at hl 1 rfl) ?_
      refine lv_iload_n hx hb d_Model_prepared_25 rfl (lv_at hl 3 rfl) ?_
      refine lv_iconst (v := 1) hx hb d_Model_prepared_26 (by decide) ?_
      obtain ⟨v27, e27, h⟩ := ob_el h
      refine gg_Vi (As := [.int v2, .int x1, .int (1 : Int32)]) (rest := []) (ci := 5) (C := R_Model) (T := F_Model) (N := 23) ⟨hx, hb, hml, hown, hall⟩ (c_Model_has l hT o0 e27) (cwV 3 hall (gV m_433 m_434 m_435 m_338 m_376) rfl rfl rfl (by decide +kernel) ⟨Nat.le_of_ble_eq_true rfl, Nat.le_of_ble_eq_true rfl⟩) hK hP hS o0.1 (wE_5 o0.2) rfl rfl hl.1 rfl (Nat.le_of_ble_eq_true rfl) d_Model_prepared_27 (fun H locs hP hS => ?_)
      refine lv_if_eq hx hb d_Model_prepared_30 rfl (fun hc => ?_) (fun hc => ?_)
      · replace h := i_pos hc h
        exact b_Model_prepared_43 cx _ _ _ _ _ _ o0 h hP hS (lv_sub hl [2, 3] rfl)
      · replace h := i_neg hc h
        refine lv_aload_n hx hb d_Model_prepared_33 rfl (lv_at hl 2 rfl) ?_
        refine lv_iload_n hx hb d_Model_prepared_34 rfl (lv_at hl 0 rfl) ?_
        refine lv_iload_n hx hb d_Model_prepared_35 rfl (lv_at hl 3 rfl) ?_
        refine lv_iconst (v := 1) hx hb d_Model_prepared_36 (by decide) ?_
        obtain ⟨v37, e37, h⟩ := ob_el h
        refine gg_Vi (As := [.int v8, .int x1, .int (1 : Int32)]) (rest := []) (ci := 5) (C := R_Model) (T := F_Model) (N := 23) ⟨hx, hb, hml, hown, hall⟩ (c_Model_has l hT o0 e37) (cwV 3 hall (gV m_433 m_434 m_435 m_338 m_376) rfl rfl rfl (by decide +kernel) ⟨Nat.le_of_ble_eq_true rfl, Nat.le_of_ble_eq_true rfl⟩) hK hP hS o0.1 (wE_5 o0.2) rfl rfl hl.1 rfl (Nat.le_of_ble_eq_true rfl) d_Model_prepared_37 (fun H locs hP hS => ?_)
        refine lv_if_ne hx hb d_Model_prepared_40 rfl (fun hc => ?_) (fun hc => ?_)
        · replace h := i_neg hc h
          refine lv_aload_n hx hb d_Model_prepared_52 rfl (lv_at hl 2 rfl) ?_
          refine lv_iload_n hx hb d_Model_prepared_53 rfl (lv_at hl 1 rfl) ?_
          refine lv_iload_n hx hb d_Model_prepared_54 rfl (lv_at hl 3 rfl) ?_
          refine lv_iconst (v := 1) hx hb d_Model_prepared_55 (by decide) ?_
          obtain ⟨v56, e56, h⟩ := ob_el h
          refine gg_Vi (As := [.int v2, .int x1, .int (1 : Int32)]) (rest := []) (ci := 5) (C := R_Model) (T := F_Model) (N := 23) ⟨hx, hb, hml, hown, hall⟩ (c_Model_knows l hT o0 e56) (cwV 3 hall (gV m_436 m_437 m_438 m_338 m_377) rfl rfl rfl (by decide +kernel) ⟨Nat.le_of_ble_eq_true rfl, Nat.le_of_ble_eq_true rfl⟩) hK hP hS o0.1 (wE_5 o0.2) rfl rfl hl.1 rfl (Nat.le_of_ble_eq_true rfl) d_Model_prepared_56 (fun H locs hP hS => ?_)
          refine lv_if_eq hx hb d_Model_prepared_59 rfl (fun hc => ?_) (fun hc => ?_)
          · replace h := i_pos hc h
            exact b_Model_prepared_72 cx _ _ _ _ h hP hS (lv_sub hl [] rfl)
          · replace h := i_neg hc h
            refine lv_aload_n hx hb d_Model_prepared_62 rfl (lv_at hl 2 rfl) ?_
            refine lv_iload_n hx hb d_Model_prepared_63 rfl (lv_at hl 0 rfl) ?_
            refine lv_iload_n hx hb d_Model_prepared_64 rfl (lv_at hl 3 rfl) ?_
            refine lv_iconst (v := 1) hx hb d_Model_prepared_65 (by decide) ?_
            obtain ⟨v66, e66, h⟩ := ob_el h
            refine gg_Vi (As := [.int v8, .int x1, .int (1 : Int32)]) (rest := []) (ci := 5) (C := R_Model) (T := F_Model) (N := 23) ⟨hx, hb, hml, hown, hall⟩ (c_Model_knows l hT o0 e66) (cwV 3 hall (gV m_436 m_437 m_438 m_338 m_377) rfl rfl rfl (by decide +kernel) ⟨Nat.le_of_ble_eq_true rfl, Nat.le_of_ble_eq_true rfl⟩) hK hP hS o0.1 (wE_5 o0.2) rfl rfl hl.1 rfl (Nat.le_of_ble_eq_true rfl) d_Model_prepared_66 (fun H locs hP hS => ?_)
            refine lv_if_ne hx hb d_Model_prepared_69 rfl (fun hc => ?_) (fun hc => ?_)
            · replace h := i_neg hc h
              refine lv_aload_n hx hb d_Model_prepared_74 rfl (lv_at hl 2 rfl) ?_
              refine lv_iload_n hx hb d_Model_prepared_75 rfl (lv_at hl 1 rfl) ?_
              obtain ⟨v76, e76, h⟩ := ob_el h
              refine gg_Vi (As := [.int v2]) (rest := []) (ci := 5) (C := R_Model) (T := F_Model) (N := 23) ⟨hx, hb, hml, hown, hall⟩ (c_Model_next l hT o0 e76) (cwV 1 hall (gV m_390 m_391 m_392 m_338 m_368) rfl rfl rfl (by decide +kernel) ⟨Nat.le_of_ble_eq_true rfl, Nat.le_of_ble_eq_true rfl⟩) hK hP hS o0.1 (wE_5 o0.2) rfl rfl hl.1 rfl (Nat.le_of_ble_eq_true rfl) d_Model_prepared_76 (fun H locs hP hS => ?_)
              refine lv_istore (lv' := [(4, .int v76), (3, .int v8), (2, .int v2), (0, .ref a0), (1, .int x1)]) hx hb d_Model_prepared_79 hl (Nat.le_of_ble_eq_true rfl) rfl (fun ls hl => ?_)
              refine lv_aload_n hx hb d_Model_prepared_81 rfl (lv_at hl 3 rfl) ?_
              refine gg_get (C := R_Model) (T := F_Model) (N := 23) (ci := 5) hx hb hall i_Model hown hK hP o0.1 (wE_5 o0.2) rfl 12 (by decide) (hall _ m_367) (fun _ h9 => h9) rfl d_Model_prepared_82 ?_
              have o_82 : okA g 6 360 (R a0 12) := ty_Model_12 hT o0
              refine lv_bipush (v := 60) hx hb d_Model_prepared_85 (by decide) ?_
              refine lv_iload_n hx hb d_Model_prepared_87 rfl (lv_at hl 1 rfl) ?_
              refine lv_imul hx hb d_Model_prepared_88 ?_
              refine lv_aload_n hx hb d_Model_prepared_89 rfl (lv_at hl 3 rfl) ?_
              refine lv_iload_n hx hb d_Model_prepared_90 rfl (lv_at hl 1 rfl) ?_
              refine lv_iload_n hx hb d_Model_prepared_91 rfl (lv_at hl 4 rfl) ?_
              refine lv_iconst (v := 1) hx hb d_Model_prepared_92 (by decide) ?_
              refine lv_aload_n hx hb d_Model_prepared_93 rfl (lv_at hl 3 rfl) ?_
              refine gg_get (C := R_Model) (T := F_Model) (N := 23) (ci := 5) hx hb hall i_Model hown hK hP o0.1 (wE_5 o0.2) rfl 9 (by decide) (hall _ m_366) (fun _ h9 => h9) rfl d_Model_prepared_94 ?_
              have o_94 : okA g 6 6 (R a0 9) := ty_Model_9 hT o0
              refine lv_iload_n hx hb d_Model_prepared_97 rfl (lv_at hl 1 rfl) ?_
              obtain ⟨hi98, h⟩ := chk_el h
              refine gg_iald hx hb hK hP o_94 hi98 d_Model_prepared_98 ?_
              obtain ⟨v99, e99, h⟩ := ob_el h
              refine gg_Vi (As := [.int v8, .int x1, .int (1 : Int32), .int (I (R a0 9) v8.toNatClampNeg)]) (rest := [.int ((60 : Int32) * v8), .ref (R a0 12)]) (ci := 5) (C := R_Model) (T := F_Model) (N := 23) ⟨hx, hb, hml, hown, hall⟩ (c_Model_find l hT o0 e99) (cwV 4 hall (gV m_373 m_374 m_375 m_338 m_372) rfl rfl rfl (by decide +kernel) ⟨Nat.le_of_ble_eq_true rfl, Nat.le_of_ble_eq_true rfl⟩) hK hP hS o0.1 (wE_5 o0.2) rfl rfl hl.1 rfl (Nat.le_of_ble_eq_true rfl) d_Model_prepared_99 (fun H locs hP hS => ?_)
              refine lv_iadd hx hb d_Model_prepared_102 ?_
              obtain ⟨hi103, h⟩ := chk_el h
              refine gg_iald hx hb hK hP o_82 hi103 d_Model_prepared_103 ?_
              refine lv_istore (lv' := [(5, .int (I (R a0 12) (((60 : Int32) * v8) + v99).toNatClampNeg)), (4, .int v76), (3, .int v8), (2, .int v2), (0, .ref a0), (1, .int x1)]) hx hb d_Model_prepared_104 hl (Nat.le_of_ble_eq_true rfl) rfl (fun ls hl => ?_)
              refine lv_iload hx hb d_Model_prepared_106 (lv_at hl 0 rfl) ?_
              refine lv_iload hx hb d_Model_prepared_108 (lv_at hl 1 rfl) ?_
              refine lv_icmp_le hx hb d_Model_prepared_110 rfl (fun hc => ?_) (fun hc => ?_)
              · replace h := i_pos hc h
                refine lv_iload hx hb d_Model_prepared_118 (lv_at hl 1 rfl) ?_
                exact b_Model_prepared_120 cx _ _ _ _ _ _ _ _ o0 h hP hS (lv_sub hl [4, 5, 3] rfl)
              · replace h := i_neg hc h
                refine lv_iload hx hb d_Model_prepared_113 (lv_at hl 0 rfl) ?_
                refine lv_goto hx hb d_Model_prepared_115 rfl ?_
                exact b_Model_prepared_120 cx _ _ _ _ _ _ _ _ o0 h hP hS (lv_sub hl [4, 5, 3] rfl)
            · replace h := i_pos hc h
              exact b_Model_prepared_72 cx _ _ _ _ h hP hS (lv_sub hl [] rfl)
        · replace h := i_pos hc h
          exact b_Model_prepared_43 cx _ _ _ _ _ _ o0 h hP hS (lv_sub hl [2, 3] rfl)
    · replace h := i_neg hc h
      exact b_Model_prepared_20 cx _ _ _ _ h hP hS (lv_sub hl [] rfl)
abbrev b_Model_committing : ByteArray := prog_7_method_44_code
def y_Model_committing : MethodName := ⟨"StampedStoreModel", "committing", "(I)I"⟩
def w_Model_committing : List Cond := .code y_Model_committing b_Model_committing 5 (some .int) :: w_all
theorem d_Model_committing_0 : decode b_Model_committing 0 = .ok (.aload_n 0, 1) := by decide +kernel
theorem d_Model_committing_1 : decode b_Model_committing 1 = .ok (.iload_n 1, 1) := by decide +kernel
theorem d_Model_committing_2 : decode b_Model_committing 2 = .ok (.iconst 0, 1) := by decide +kernel
theorem d_Model_committing_3 : decode b_Model_committing 3 = .ok (.invokevirtual 159, 3) := by decide +kernel
theorem d_Model_committing_6 : decode b_Model_committing 6 = .ok (.ifCond .eq 16, 3) := by decide +kernel
theorem d_Model_committing_9 : decode b_Model_committing 9 = .ok (.aload_n 0, 1) := by decide +kernel
theorem d_Model_committing_10 : decode b_Model_committing 10 = .ok (.iload_n 1, 1) := by decide +kernel
theorem d_Model_committing_11 : decode b_Model_committing 11 = .ok (.iconst 1, 1) := by decide +kernel
theorem d_Model_committing_12 : decode b_Model_committing 12 = .ok (.invokevirtual 159, 3) := by decide +kernel
theorem d_Model_committing_15 : decode b_Model_committing 15 = .ok (.ifCond .eq 7, 3) := by decide +kernel
theorem d_Model_committing_18 : decode b_Model_committing 18 = .ok (.iconst 1, 1) := by decide +kernel
theorem d_Model_committing_19 : decode b_Model_committing 19 = .ok (.goto 4, 3) := by decide +kernel
theorem d_Model_committing_22 : decode b_Model_committing 22 = .ok (.iconst 0, 1) := by decide +kernel
theorem d_Model_committing_23 : decode b_Model_committing 23 = .ok (.istore_n 2, 1) := by decide +kernel
theorem d_Model_committing_24 : decode b_Model_committing 24 = .ok (.aload_n 0, 1) := by decide +kernel
theorem d_Model_committing_25 : decode b_Model_committing 25 = .ok (.aload_n 0, 1) := by decide +kernel
theorem d_Model_committing_26 : decode b_Model_committing 26 = .ok (.iload_n 1, 1) := by decide +kernel
theorem d_Model_committing_27 : decode b_Model_committing 27 = .ok (.iconst 0, 1) := by decide +kernel
theorem d_Model_committing_28 : decode b_Model_committing 28 = .ok (.invokevirtual 159, 3) := by decide +kernel
theorem d_Model_committing_31 : decode b_Model_committing 31 = .ok (.ifCond .eq 7, 3) := by decide +kernel
theorem d_Model_committing_34 : decode b_Model_committing 34 = .ok (.iconst 0, 1) := by decide +kernel
theorem d_Model_committing_35 : decode b_Model_committing 35 = .ok (.goto 4, 3) := by decide +kernel
theorem d_Model_committing_38 : decode b_Model_committing 38 = .ok (.iconst 1, 1) := by decide +kernel
theorem d_Model_committing_39 : decode b_Model_committing 39 = .ok (.invokevirtual 93, 3) := by decide +kernel
theorem d_Model_committing_42 : decode b_Model_committing 42 = .ok (.istore_n 3, 1) := by decide +kernel
theorem d_Model_committing_43 : decode b_Model_committing 43 = .ok (.iload_n 3, 1) := by decide +kernel
theorem d_Model_committing_44 : decode b_Model_committing 44 = .ok (.ifCond .ge 6, 3) := by decide +kernel
theorem d_Model_committing_47 : decode b_Model_committing 47 = .ok (.bipush (-3), 2) := by decide +kernel
theorem d_Model_committing_49 : decode b_Model_committing 49 = .ok (.ireturn, 1) := by decide +kernel
theorem d_Model_committing_50 : decode b_Model_committing 50 = .ok (.aload_n 0, 1) := by decide +kernel
theorem d_Model_committing_51 : decode b_Model_committing 51 = .ok (.iload_n 3, 1) := by decide +kernel
theorem d_Model_committing_52 : decode b_Model_committing 52 = .ok (.iload_n 1, 1) := by decide +kernel
theorem d_Model_committing_53 : decode b_Model_committing 53 = .ok (.iconst 2, 1) := by decide +kernel
theorem d_Model_committing_54 : decode b_Model_committing 54 = .ok (.invokevirtual 144, 3) := by decide +kernel
theorem d_Model_committing_57 : decode b_Model_committing 57 = .ok (.ifCond .ne 21, 3) := by decide +kernel
theorem d_Model_committing_60 : decode b_Model_committing 60 = .ok (.aload_n 0, 1) := by decide +kernel
theorem d_Model_committing_61 : decode b_Model_committing 61 = .ok (.getfield 53, 3) := by decide +kernel
theorem d_Model_committing_64 : decode b_Model_committing 64 = .ok (.iload_n 1, 1) := by decide +kernel
theorem d_Model_committing_65 : decode b_Model_committing 65 = .ok (.iload_n 2, 1) := by decide +kernel
theorem d_Model_committing_66 : decode b_Model_committing 66 = .ok (.ifCond .eq 7, 3) := by decide +kernel
theorem d_Model_committing_69 : decode b_Model_committing 69 = .ok (.iconst 1, 1) := by decide +kernel
theorem d_Model_committing_70 : decode b_Model_committing 70 = .ok (.goto 4, 3) := by decide +kernel
theorem d_Model_committing_73 : decode b_Model_committing 73 = .ok (.iconst 4, 1) := by decide +kernel
theorem d_Model_committing_74 : decode b_Model_committing 74 = .ok (.iastore, 1) := by decide +kernel
theorem d_Model_committing_75 : decode b_Model_committing 75 = .ok (.goto 63, 3) := by decide +kernel
theorem d_Model_committing_78 : decode b_Model_committing 78 = .ok (.aload_n 0, 1) := by decide +kernel
theorem d_Model_committing_79 : decode b_Model_committing 79 = .ok (.getfield 41, 3) := by decide +kernel
theorem d_Model_committing_82 : decode b_Model_committing 82 = .ok (.bipush 60, 2) := by decide +kernel
theorem d_Model_committing_84 : decode b_Model_committing 84 = .ok (.iload_n 3, 1) := by decide +kernel
theorem d_Model_committing_85 : decode b_Model_committing 85 = .ok (.imul, 1) := by decide +kernel
theorem d_Model_committing_86 : decode b_Model_committing 86 = .ok (.aload_n 0, 1) := by decide +kernel
theorem d_Model_committing_87 : decode b_Model_committing 87 = .ok (.iload_n 3, 1) := by decide +kernel
theorem d_Model_committing_88 : decode b_Model_committing 88 = .ok (.iload_n 1, 1) := by decide +kernel
theorem d_Model_committing_89 : decode b_Model_committing 89 = .ok (.iconst 2, 1) := by decide +kernel
theorem d_Model_committing_90 : decode b_Model_committing 90 = .ok (.aload_n 0, 1) := by decide +kernel
theorem d_Model_committing_91 : decode b_Model_committing 91 = .ok (.getfield 32, 3) := by decide +kernel
theorem d_Model_committing_94 : decode b_Model_committing 94 = .ok (.iload_n 3, 1) := by decide +kernel
theorem d_Model_committing_95 : decode b_Model_committing 95 = .ok (.iaload, 1) := by decide +kernel
theorem d_Model_committing_96 : decode b_Model_committing 96 = .ok (.invokevirtual 96, 3) := by decide +kernel
theorem d_Model_committing_99 : decode b_Model_committing 99 = .ok (.iadd, 1) := by decide +kernel
theorem d_Model_committing_100 : decode b_Model_committing 100 = .ok (.iaload, 1) := by decide +kernel
theorem d_Model_committing_101 : decode b_Model_committing 101 = .ok (.istore 4, 2) := by decide +kernel
theorem d_Model_committing_103 : decode b_Model_committing 103 = .ok (.aload_n 0, 1) := by decide +kernel
theorem d_Model_committing_104 : decode b_Model_committing 104 = .ok (.iload_n 3, 1) := by decide +kernel
theorem d_Model_committing_105 : decode b_Model_committing 105 = .ok (.iload_n 1, 1) := by decide +kernel
theorem d_Model_committing_106 : decode b_Model_committing 106 = .ok (.iconst 2, 1) := by decide +kernel
theorem d_Model_committing_107 : decode b_Model_committing 107 = .ok (.invokevirtual 147, 3) := by decide +kernel
theorem d_Model_committing_110 : decode b_Model_committing 110 = .ok (.ifCond .eq 28, 3) := by decide +kernel
theorem d_Model_committing_113 : decode b_Model_committing 113 = .ok (.iload 4, 2) := by decide +kernel
theorem d_Model_committing_115 : decode b_Model_committing 115 = .ok (.aload_n 0, 1) := by decide +kernel
theorem d_Model_committing_116 : decode b_Model_committing 116 = .ok (.iload_n 3, 1) := by decide +kernel
theorem d_Model_committing_117 : decode b_Model_committing 117 = .ok (.invokevirtual 100, 3) := by decide +kernel
theorem d_Model_committing_120 : decode b_Model_committing 120 = .ok (.if_icmp .ge 18, 3) := by decide +kernel
theorem d_Model_committing_123 : decode b_Model_committing 123 = .ok (.aload_n 0, 1) := by decide +kernel
theorem d_Model_committing_124 : decode b_Model_committing 124 = .ok (.getfield 53, 3) := by decide +kernel
theorem d_Model_committing_127 : decode b_Model_committing 127 = .ok (.iload_n 1, 1) := by decide +kernel
theorem d_Model_committing_128 : decode b_Model_committing 128 = .ok (.iconst 3, 1) := by decide +kernel
theorem d_Model_committing_129 : decode b_Model_committing 129 = .ok (.iastore, 1) := by decide +kernel
theorem d_Model_committing_130 : decode b_Model_committing 130 = .ok (.aload_n 0, 1) := by decide +kernel
theorem d_Model_committing_131 : decode b_Model_committing 131 = .ok (.getfield 68, 3) := by decide +kernel
theorem d_Model_committing_134 : decode b_Model_committing 134 = .ok (.iload_n 1, 1) := by decide +kernel
theorem d_Model_committing_135 : decode b_Model_committing 135 = .ok (.iload 4, 2) := by decide +kernel
theorem d_Model_committing_137 : decode b_Model_committing 137 = .ok (.iastore, 1) := by decide +kernel
theorem d_Model_committing_138 : decode b_Model_committing 138 = .ok (.aload_n 0, 1) := by decide +kernel
theorem d_Model_committing_139 : decode b_Model_committing 139 = .ok (.getfield 53, 3) := by decide +kernel
theorem d_Model_committing_142 : decode b_Model_committing 142 = .ok (.iload_n 1, 1) := by decide +kernel
theorem d_Model_committing_143 : decode b_Model_committing 143 = .ok (.iaload, 1) := by decide +kernel
theorem d_Model_committing_144 : decode b_Model_committing 144 = .ok (.ireturn, 1) := by decide +kernel
def B_Model_committing_138 (R : Nat → Nat → Nat) (a0 : Nat) (x1 : Int32) (I : St) : Option (Int32 × St) := (chk x1 16 (some ((I (R a0 17) x1.toNatClampNeg), I)))
set_option maxHeartbeats 4000000 in
set_option maxRecDepth 100000 in
theorem b_Model_committing_138 {p : Program} {l : Launch} {e : Env} {s : State} {m : MethodId} {args : Array Value} {below : List Frame} {meth : Method} {c : Code} {g : Sg} {R : Nat → Nat → Nat} {J : St} {v : Int32} (cx : Cx p s m args meth c g R R_Model b_Model_committing 5 (some .int)) : ∀ (a0 : Nat) (x1 : Int32) (I : St) (H : Heap) (locs : List Loc) (ls : Array Slot), okA g 5 0 a0 → B_Model_committing_138 R a0 x1 I = some (v, J) → wW g R I H → va_S (· ∈ g.L) s.heap H locs → lv_has ls 5 [(0, .ref a0), (1, .int x1)] → W p l e { frames := 4, cells := 0, slots := 0, locals := 87 } s m args below meth c H locs 0 0 (MQ below (Qi g R v J) args s 0 0 (· ∈ g.L)) (F0 m 138 ls []) := by
  have ⟨hx, hb, hml, hr, hlk, hown, hall, hT, hK⟩ := cx
  intro a0 x1 I H locs ls o0 h hP hS hl
  unfold B_Model_committing_138 at h
  refine lv_aload_n hx hb d_Model_committing_138 rfl (lv_at hl 0 rfl) ?_
  refine gg_get (C := R_Model) (T := F_Model) (N := 23) (ci := 5) hx hb hall i_Model hown hK hP o0.1 (wE_5 o0.2) rfl 17 (by decide) (hall _ m_449) (fun _ h9 => h9) rfl d_Model_committing_139 ?_
  have o_139 : okA g 6 16 (R a0 17) := ty_Model_17 hT o0
  refine lv_iload_n hx hb d_Model_committing_142 rfl (lv_at hl 1 rfl) ?_
  obtain ⟨hi143, h⟩ := chk_el h
  refine gg_iald hx hb hK hP o_139 hi143 d_Model_committing_143 ?_
  obtain ⟨rfl, rfl⟩ := rt_el h
  exact gg_iret hx hb hr hlk hK hP hS d_Model_committing_144
def B_Model_committing_74 (R : Nat → Nat → Nat) (a0 : Nat) (x1 : Int32) (u0 : Nat) (t1 : Int32) (t2 : Int32) (I : St) : Option (Int32 × St) := (chk t1 16 (ap (up2 I u0 t1.toNatClampNeg t2) (fun I74 => B_Model_committing_138 R a0 x1 I74)))
set_option maxHeartbeats 4000000 in
set_option maxRecDepth 100000 in
theorem b_Model_committing_74 {p : Program} {l : Launch} {e : Env} {s : State} {m : MethodId} {args : Array Value} {below : List Frame} {meth : Method} {c : Code} {g : Sg} {R : Nat → Nat → Nat} {J : St} {v : Int32} (cx : Cx p s m args meth c g R R_Model b_Model_committing 5 (some .int)) : ∀ (a0 : Nat) (x1 : Int32) (u0 : Nat) (t1 : Int32) (t2 : Int32) (I : St) (H : Heap) (locs : List Loc) (ls : Array Slot), okA g 5 0 a0 → okA g 6 16 u0 → B_Model_committing_74 R a0 x1 u0 t1 t2 I = some (v, J) → wW g R I H → va_S (· ∈ g.L) s.heap H locs → lv_has ls 5 [(0, .ref a0), (1, .int x1)] → W p l e { frames := 4, cells := 0, slots := 0, locals := 87 } s m args below meth c H locs 0 0 (MQ below (Qi g R v J) args s 0 0 (· ∈ g.L)) (F0 m 74 ls [.int t2, .int t1, .ref u0]) := by
  have ⟨hx, hb, hml, hr, hlk, hown, hall, hT, hK⟩ := cx
  intro a0 x1 u0 t1 t2 I H locs ls o0 q0 h hP hS hl
  unfold B_Model_committing_74 at h
  obtain ⟨hi74, h⟩ := chk_el h
  refine gg_iast hx hb hT.1 hK hP hS q0 hi74 d_Model_committing_74 (fun I74 H locs e74 hP hS => ?_)
  replace h := ap_el e74 h
  refine lv_goto hx hb d_Model_committing_75 rfl ?_
  exact b_Model_committing_138 cx _ _ _ _ _ _ o0 h hP hS (lv_sub hl [0, 1] rfl)
def B_Model_committing_39 (R : Nat → Nat → Nat) (a0 : Nat) (x1 : Int32) (x2 : Int32) (u0 : Nat) (t1 : Int32) (I : St) : Option (Int32 × St) := (ob (F_Model_ready R u0 t1 I) (fun v39 => (if 0 ≤ v39 then (ob (F_Model_has R a0 v39 x1 (2 : Int32) I) (fun v54 => (if v54 = 0 then (if x2 = 0 then B_Model_committing_74 R a0 x1 (R a0 17) x1 (4 : Int32) I else B_Model_committing_74 R a0 x1 (R a0 17) x1 (1 : Int32) I) else (chk v39 6 ((ob (F_Model_find R a0 v39 x1 (2 : Int32) (I (R a0 9) v39.toNatClampNeg) I) (fun v96 => (chk (((60 : Int32) * v39) + v96) 360 ((ob (F_Model_knows R a0 v39 x1 (2 : Int32) I) (fun v107 => (if v107 = 0 then B_Model_committing_138 R a0 x1 I else (ob (F_Model_earliest R a0 v39 I) (fun v117 => (if v117 ≤ (I (R a0 12) (((60 : Int32) * v39) + v96).toNatClampNeg) then B_Model_committing_138 R a0 x1 I else (chk x1 16 (ap (up2 I (R a0 17) x1.toNatClampNeg (3 : Int32)) (fun I129 => (chk x1 16 (ap (up2 I129 (R a0 22) x1.toNatClampNeg (I (R a0 12) (((60 : Int32) * v39) + v96).toNatClampNeg)) (fun I137 => B_Model_committing_138 R a0 x1 I137))))))))))))))))))))) else some ((-3 : Int32), I))))
set_option maxHeartbeats 4000000 in
set_option maxRecDepth 100000 in
theorem b_Model_committing_39 {p : Program} {l : Launch} {e : Env} {s : State} {m : MethodId} {args : Array Value} {below : List Frame} {meth : Method} {c : Code} {g : Sg} {R : Nat → Nat → Nat} {J : St} {v : Int32} (cx : Cx p s m args meth c g R R_Model b_Model_committing 5 (some .int)) : ∀ (a0 : Nat) (x1 : Int32) (x2 : Int32) (u0 : Nat) (t1 : Int32) (I : St) (H : Heap) (locs : List Loc) (ls : Array Slot), okA g 5 0 a0 → okA g 5 0 u0 → B_Model_committing_39 R a0 x1 x2 u0 t1 I = some (v, J) → wW g R I H → va_S (· ∈ g.L) s.heap H locs → lv_has ls 5 [(0, .ref a0), (1, .int x1), (2, .int x2)] → W p l e { frames := 4, cells := 0, slots := 0, locals := 87 } s m args below meth c H locs 0 0 (MQ below (Qi g R v J) args s 0 0 (· ∈ g.L)) (F0 m 39 ls [.int t1, .ref u0]) := by
  have ⟨hx, hb, hml, hr, hlk, hown, hall, hT, hK⟩ := cx
  intro a0 x1 x2 u0 t1 I H locs ls o0 q0 h hP hS hl
  unfold B_Model_committing_39 at h
  obtain ⟨v39, e39, h⟩ := ob_el h
  refine gg_Vi (As := [.int t1]) (rest := []) (ci := 5) (C := R_Model) (T := F_Model) (N := 23) ⟨hx, hb, hml, hown, hall⟩ (c_Model_ready l hT q0 e39) (cwV 1 hall (gV m_360 m_361 m_362 m_338 m_359) rfl rfl rfl (by decide +kernel) ⟨Nat.le_of_ble_eq_true rfl, Nat.le_of_ble_eq_true rfl⟩) hK hP hS q0.1 (wE_5 q0.2) rfl rfl hl.1 rfl (Nat.le_of_ble_eq_true rfl) d_Model_committing_39 (fun H locs hP hS => ?_)
  refine lv_istore_n (lv' := [(3, .int v39), (0, .ref a0), (1, .int x1), (2, .int x2)]) hx hb d_Model_committing_42 rfl hl (Nat.le_of_ble_eq_true rfl) rfl (fun ls hl => ?_)
  refine lv_iload_n hx hb d_Model_committing_43 rfl (lv_at hl 0 rfl) ?_
  refine lv_if_ge hx hb d_Model_committing_44 rfl (fun hc => ?_) (fun hc => ?_)
  · replace h := i_pos hc h
    refine lv_aload_n hx hb d_Model_committing_50 rfl (lv_at hl 1 rfl) ?_
    refine lv_iload_n hx hb d_Model_committing_51 rfl (lv_at hl 0 rfl) ?_
    refine lv_iload_n hx hb d_Model_committing_52 rfl (lv_at hl 2 rfl) ?_
    refine lv_iconst (v := 2) hx hb d_Model_committing_53 (by decide) ?_
    obtain ⟨v54, e54, h⟩ := ob_el h
    refine gg_Vi (As := [.int v39, .int x1, .int (2 : Int32)]) (rest := []) (ci := 5) (C := R_Model) (T := F_Model) (N := 23) ⟨hx, hb, hml, hown, hall⟩ (c_Model_has l hT o0 e54) (cwV 3 hall (gV m_433 m_434 m_435 m_338 m_376) rfl rfl rfl (by decide +kernel) ⟨Nat.le_of_ble_eq_true rfl, Nat.le_of_ble_eq_true rfl⟩) hK hP hS o0.1 (wE_5 o0.2) rfl rfl hl.1 rfl (Nat.le_of_ble_eq_true rfl) d_Model_committing_54 (fun H locs hP hS => ?_)
    refine lv_if_ne hx hb d_Model_committing_57 rfl (fun hc => ?_) (fun hc => ?_)
    · replace h := i_neg hc h
      refine lv_aload_n hx hb d_Model_committing_78 rfl (lv_at hl 1 rfl) ?_
      refine gg_get (C := R_Model) (T := F_Model) (N := 23) (ci := 5) hx hb hall i_Model hown hK hP o0.1 (wE_5 o0.2) rfl 12 (by decide) (hall _ m_367) (fun _ h9 => h9) rfl d_Model_committing_79 ?_
      have o_79 : okA g 6 360 (R a0 12) := ty_Model_12 hT o0
      refine lv_bipush (v := 60) hx hb d_Model_committing_82 (by decide) ?_
      refine lv_iload_n hx hb d_Model_committing_84 rfl (lv_at hl 0 rfl) ?_
      refine lv_imul hx hb d_Model_committing_85 ?_
      refine lv_aload_n hx hb d_Model_committing_86 rfl (lv_at hl 1 rfl) ?_
      refine lv_iload_n hx hb d_Model_committing_87 rfl (lv_at hl 0 rfl) ?_
      refine lv_iload_n hx hb d_Model_committing_88 rfl (lv_at hl 2 rfl) ?_
      refine lv_iconst (v := 2) hx hb d_Model_committing_89 (by decide) ?_
      refine lv_aload_n hx hb d_Model_committing_90 rfl (lv_at hl 1 rfl) ?_
      refine gg_get (C := R_Model) (T := F_Model) (N := 23) (ci := 5) hx hb hall i_Model hown hK hP o0.1 (wE_5 o0.2) rfl 9 (by decide) (hall _ m_366) (fun _ h9 => h9) rfl d_Model_committing_91 ?_
      have o_91 : okA g 6 6 (R a0 9) := ty_Model_9 hT o0
      refine lv_iload_n hx hb d_Model_committing_94 rfl (lv_at hl 0 rfl) ?_
      obtain ⟨hi95, h⟩ := chk_el h
      refine gg_iald hx hb hK hP o_91 hi95 d_Model_committing_95 ?_
      obtain ⟨v96, e96, h⟩ := ob_el h
      refine gg_Vi (As := [.int v39, .int x1, .int (2 : Int32), .int (I (R a0 9) v39.toNatClampNeg)]) (rest := [.int ((60 : Int32) * v39), .ref (R a0 12)]) (ci := 5) (C := R_Model) (T := F_Model) (N := 23) ⟨hx, hb, hml, hown, hall⟩ (c_Model_find l hT o0 e96) (cwV 4 hall (gV m_373 m_374 m_375 m_338 m_372) rfl rfl rfl (by decide +kernel) ⟨Nat.le_of_ble_eq_true rfl, Nat.le_of_ble_eq_true rfl⟩) hK hP hS o0.1 (wE_5 o0.2) rfl rfl hl.1 rfl (Nat.le_of_ble_eq_true rfl) d_Model_committing_96 (fun H locs hP hS => ?_)
      refine lv_iadd hx hb d_Model_committing_99 ?_
      obtain ⟨hi100, h⟩ := chk_el h
      refine gg_iald hx hb hK hP o_79 hi100 d_Model_committing_100 ?_
      refine lv_istore (lv' := [(4, .int (I (R a0 12) (((60 : Int32) * v39) + v96).toNatClampNeg)), (3, .int v39), (0, .ref a0), (1, .int x1), (2, .int x2)]) hx hb d_Model_committing_101 hl (Nat.le_of_ble_eq_true rfl) rfl (fun ls hl => ?_)
      refine lv_aload_n hx hb d_Model_committing_103 rfl (lv_at hl 2 rfl) ?_
      refine lv_iload_n hx hb d_Model_committing_104 rfl (lv_at hl 1 rfl) ?_
      refine lv_iload_n hx hb d_Model_committing_105 rfl (lv_at hl 3 rfl) ?_
      refine lv_iconst (v := 2) hx hb d_Model_committing_106 (by decide) ?_
      obtain ⟨v107, e107, h⟩ := ob_el h
      refine gg_Vi (As := [.int v39, .int x1, .int (2 : Int32)]) (rest := []) (ci := 5) (C := R_Model) (T := F_Model) (N := 23) ⟨hx, hb, hml, hown, hall⟩ (c_Model_knows l hT o0 e107) (cwV 3 hall (gV m_436 m_437 m_438 m_338 m_377) rfl rfl rfl (by decide +kernel) ⟨Nat.le_of_ble_eq_true rfl, Nat.le_of_ble_eq_true rfl⟩) hK hP hS o0.1 (wE_5 o0.2) rfl rfl hl.1 rfl (Nat.le_of_ble_eq_true rfl) d_Model_committing_107 (fun H locs hP hS => ?_)
      refine lv_if_eq hx hb d_Model_committing_110 rfl (fun hc => ?_) (fun hc => ?_)
      · replace h := i_pos hc h
        exact b_Model_committing_138 cx _ _ _ _ _ _ o0 h hP hS (lv_sub hl [2, 3] rfl)
      · replace h := i_neg hc h
        refine lv_iload hx hb d_Model_committing_113 (lv_at hl 0 rfl) ?_
        refine lv_aload_n hx hb d_Model_committing_115 rfl (lv_at hl 2 rfl) ?_
        refine lv_iload_n hx hb d_Model_committing_116 rfl (lv_at hl 1 rfl) ?_
        obtain ⟨v117, e117, h⟩ := ob_el h
        refine gg_Vi (As := [.int v39]) (rest := [.int (I (R a0 12) (((60 : Int32) * v39) + v96).toNatClampNeg)]) (ci := 5) (C := R_Model) (T := F_Model) (N := 23) ⟨hx, hb, hml, hown, hall⟩ (c_Model_earliest l hT o0 e117) (cwV 1 hall (gV m_384 m_385 m_386 m_338 m_333) rfl rfl rfl (by decide +kernel) ⟨Nat.le_of_ble_eq_true rfl, Nat.le_of_ble_eq_true rfl⟩) hK hP hS o0.1 (wE_5 o0.2) rfl rfl hl.1 rfl (Nat.le_of_ble_eq_true rfl) d_Model_committing_117 (fun H locs hP hS => ?_)
        refine lv_icmp_ge hx hb d_Model_committing_120 rfl (fun hc => ?_) (fun hc => ?_)
        · replace h := i_pos hc h
          exact b_Model_committing_138 cx _ _ _ _ _ _ o0 h hP hS (lv_sub hl [2, 3] rfl)
        · replace h := i_neg hc h
          refine lv_aload_n hx hb d_Model_committing_123 rfl (lv_at hl 2 rfl) ?_
          refine gg_get (C := R_Model) (T := F_Model) (N := 23) (ci := 5) hx hb hall i_Model hown hK hP o0.1 (wE_5 o0.2) rfl 17 (by decide) (hall _ m_449) (fun _ h9 => h9) rfl d_Model_committing_124 ?_
          have o_124 : okA g 6 16 (R a0 17) := ty_Model_17 hT o0
          refine lv_iload_n hx hb d_Model_committing_127 rfl (lv_at hl 3 rfl) ?_
          refine lv_iconst (v := 3) hx hb d_Model_committing_128 (by decide) ?_
          obtain ⟨hi129, h⟩ := chk_el h
          refine gg_iast hx hb hT.1 hK hP hS o_124 hi129 d_Model_committing_129 (fun I129 H locs e129 hP hS => ?_)
          replace h := ap_el e129 h
          refine lv_aload_n hx hb d_Model_committing_130 rfl (lv_at hl 2 rfl) ?_
          refine gg_get (C := R_Model) (T := F_Model) (N := 23) (ci := 5) hx hb hall i_Model hown hK hP o0.1 (wE_5 o0.2) rfl 22 (by decide) (hall _ m_473) (fun _ h9 => h9) rfl d_Model_committing_131 ?_
          have o_131 : okA g 6 16 (R a0 22) := ty_Model_22 hT o0
          refine lv_iload_n hx hb d_Model_committing_134 rfl (lv_at hl 3 rfl) ?_
          refine lv_iload hx hb d_Model_committing_135 (lv_at hl 0 rfl) ?_
          obtain ⟨hi137, h⟩ := chk_el h
          refine gg_iast hx hb hT.1 hK hP hS o_131 hi137 d_Model_committing_137 (fun I137 H locs e137 hP hS => ?_)
          replace h := ap_el e137 h
          exact b_Model_committing_138 cx _ _ _ _ _ _ o0 h hP hS (lv_sub hl [2, 3] rfl)
    · replace h := i_pos hc h
      refine lv_aload_n hx hb d_Model_committing_60 rfl (lv_at hl 1 rfl) ?_
      refine gg_get (C := R_Model) (T := F_Model) (N := 23) (ci := 5) hx hb hall i_Model hown hK hP o0.1 (wE_5 o0.2) rfl 17 (by decide) (hall _ m_449) (fun _ h9 => h9) rfl d_Model_committing_61 ?_
      have o_61 : okA g 6 16 (R a0 17) := ty_Model_17 hT o0
      refine lv_iload_n hx hb d_Model_committing_64 rfl (lv_at hl 2 rfl) ?_
      refine lv_iload_n hx hb d_Model_committing_65 rfl (lv_at hl 3 rfl) ?_
      refine lv_if_eq hx hb d_Model_committing_66 rfl (fun hc => ?_) (fun hc => ?_)
      · replace h := i_pos hc h
        refine lv_iconst (v := 4) hx hb d_Model_committing_73 (by decide) ?_
        exact b_Model_committing_74 cx _ _ _ _ _ _ _ _ _ o0 o_61 h hP hS (lv_sub hl [1, 2] rfl)
      · replace h := i_neg hc h
        refine lv_iconst (v := 1) hx hb d_Model_committing_69 (by decide) ?_
        refine lv_goto hx hb d_Model_committing_70 rfl ?_
        exact b_Model_committing_74 cx _ _ _ _ _ _ _ _ _ o0 o_61 h hP hS (lv_sub hl [1, 2] rfl)
  · replace h := i_neg hc h
    refine lv_bipush (v := (-3)) hx hb d_Model_committing_47 (by decide) ?_
    obtain ⟨rfl, rfl⟩ := rt_el h
    exact gg_iret hx hb hr hlk hK hP hS d_Model_committing_49
def B_Model_committing_23 (R : Nat → Nat → Nat) (a0 : Nat) (x1 : Int32) (t0 : Int32) (I : St) : Option (Int32 × St) := (ob (F_Model_touches R a0 x1 (0 : Int32) I) (fun v28 => (if v28 = 0 then B_Model_committing_39 R a0 x1 t0 a0 (1 : Int32) I else B_Model_committing_39 R a0 x1 t0 a0 (0 : Int32) I)))
set_option maxHeartbeats 4000000 in
set_option maxRecDepth 100000 in
theorem b_Model_committing_23 {p : Program} {l : Launch} {e : Env} {s : State} {m : MethodId} {args : Array Value} {below : List Frame} {meth : Method} {c : Code} {g : Sg} {R : Nat → Nat → Nat} {J : St} {v : Int32} (cx : Cx p s m args meth c g R R_Model b_Model_committing 5 (some .int)) : ∀ (a0 : Nat) (x1 : Int32) (t0 : Int32) (I : St) (H : Heap) (locs : List Loc) (ls : Array Slot), okA g 5 0 a0 → B_Model_committing_23 R a0 x1 t0 I = some (v, J) → wW g R I H → va_S (· ∈ g.L) s.heap H locs → lv_has ls 5 [(0, .ref a0), (1, .int x1)] → W p l e { frames := 4, cells := 0, slots := 0, locals := 87 } s m args below meth c H locs 0 0 (MQ below (Qi g R v J) args s 0 0 (· ∈ g.L)) (F0 m 23 ls [.int t0]) := by
  have ⟨hx, hb, hml, hr, hlk, hown, hall, hT, hK⟩ := cx
  intro a0 x1 t0 I H locs ls o0 h hP hS hl
  unfold B_Model_committing_23 at h
  refine lv_istore_n (lv' := [(2, .int t0), (0, .ref a0), (1, .int x1)]) hx hb d_Model_committing_23 rfl hl (Nat.le_of_ble_eq_true rfl) rfl (fun ls hl => ?_)
  refine lv_aload_n hx hb d_Model_committing_24 rfl (lv_at hl 1 rfl) ?_
  refine lv_aload_n hx hb d_Model_committing_25 rfl (lv_at hl 1 rfl) ?_
  refine lv_iload_n hx hb d_Model_committing_26 rfl (lv_at hl 2 rfl) ?_
  refine lv_iconst (v := 0) hx hb d_Model_committing_27 (by decide) ?_
  obtain ⟨v28, e28, h⟩ := ob_el h
  refine gg_Vi (As := [.int x1, .int (0 : Int32)]) (rest := [.ref a0]) (ci := 5) (C := R_Model) (T := F_Model) (N := 23) ⟨hx, hb, hml, hown, hall⟩ (c_Model_touches l hT o0 e28) (cwV 2 hall (gV m_456 m_457 m_458 m_338 m_426) rfl rfl rfl (by decide +kernel) ⟨Nat.le_of_ble_eq_true rfl, Nat.le_of_ble_eq_true rfl⟩) hK hP hS o0.1 (wE_5 o0.2) rfl rfl hl.1 rfl (Nat.le_of_ble_eq_true rfl) d_Model_committing_28 (fun H locs hP hS => ?_)
  refine lv_if_eq hx hb d_Model_committing_31 rfl (fun hc => ?_) (fun hc => ?_)
  · replace h := i_pos hc h
    refine lv_iconst (v := 1) hx hb d_Model_committing_38 (by decide) ?_
    exact b_Model_committing_39 cx _ _ _ _ _ _ _ _ _ o0 o0 h hP hS (lv_sub hl [1, 2, 0] rfl)
  · replace h := i_neg hc h
    refine lv_iconst (v := 0) hx hb d_Model_committing_34 (by decide) ?_
    refine lv_goto hx hb d_Model_committing_35 rfl ?_
    exact b_Model_committing_39 cx _ _ _ _ _ _ _ _ _ o0 o0 h hP hS (lv_sub hl [1, 2, 0] rfl)
def B_Model_committing_22 (R : Nat → Nat → Nat) (a0 : Nat) (x1 : Int32) (I : St) : Option (Int32 × St) := B_Model_committing_23 R a0 x1 (0 : Int32) I
set_option maxHeartbeats 4000000 in
set_option maxRecDepth 100000 in
theorem b_Model_committing_22 {p : Program} {l : Launch} {e : Env} {s : State} {m : MethodId} {args : Array Value} {below : List Frame} {meth : Method} {c : Code} {g : Sg} {R : Nat → Nat → Nat} {J : St} {v : Int32} (cx : Cx p s m args meth c g R R_Model b_Model_committing 5 (some .int)) : ∀ (a0 : Nat) (x1 : Int32) (I : St) (H : Heap) (locs : List Loc) (ls : Array Slot), okA g 5 0 a0 → B_Model_committing_22 R a0 x1 I = some (v, J) → wW g R I H → va_S (· ∈ g.L) s.heap H locs → lv_has ls 5 [(0, .ref a0), (1, .int x1)] → W p l e { frames := 4, cells := 0, slots := 0, locals := 87 } s m args below meth c H locs 0 0 (MQ below (Qi g R v J) args s 0 0 (· ∈ g.L)) (F0 m 22 ls []) := by
  have ⟨hx, hb, hml, hr, hlk, hown, hall, hT, hK⟩ := cx
  intro a0 x1 I H locs ls o0 h hP hS hl
  unfold B_Model_committing_22 at h
  refine lv_iconst (v := 0) hx hb d_Model_committing_22 (by decide) ?_
  exact b_Model_committing_23 cx _ _ _ _ _ _ _ o0 h hP hS (lv_sub hl [0, 1] rfl)
def F_Model_committing (R : Nat → Nat → Nat) (a0 : Nat) (x1 : Int32) (I : St) : Option (Int32 × St) := (ob (F_Model_touches R a0 x1 (0 : Int32) I) (fun v3 => (if v3 = 0 then B_Model_committing_22 R a0 x1 I else (ob (F_Model_touches R a0 x1 (1 : Int32) I) (fun v12 => (if v12 = 0 then B_Model_committing_22 R a0 x1 I else B_Model_committing_23 R a0 x1 (1 : Int32) I))))))
set_option maxHeartbeats 4000000 in
set_option maxRecDepth 100000 in
theorem c_Model_committing (l : Launch) {g : Sg} {R : Nat → Nat → Nat} (hT : Ty g R) {a0 : Nat} (o0 : okA g 5 0 a0) {x1 : Int32} {I : St} {J : St} {v : Int32} (h : F_Model_committing R a0 x1 I = some (v, J)) : Cti l g R y_Model_committing w_Model_committing 4 87 [.ref a0, .int x1] I v J := by
  unfold Cti
  refine Met.ofW (cc := b_Model_committing) (maxL := 5) (ret := (some .int)) (by decide) rfl ?_
  intro p e s m args below meth c s₁ B hml hv
  obtain ⟨rfl, hP, hK⟩ := hv
  have hts := atoms_spec (ws := w_Model_committing) B.pre
  have hall : ∀ w ∈ w_all, w.before _ s = true := fun w hw => hts w (List.mem_cons_of_mem _ hw)
  have hown : s.vm.findClass R_Model = some m.cls := findClass_of_methodNamed B.named
  have hx := B.exec
  have hb := B.bytes
  have hr := B.returns
  have hlk := B.notSynchronized
  have cx : Cx p s m _ meth c g R R_Model b_Model_committing 5 (some .int) := ⟨hx, hb, hml, hr, hlk, hown, hall, hT, hK⟩
  have hl := lv_entry ([.ref a0, .int x1]) (n := 5) (Nat.le_of_ble_eq_true rfl)
  rw [lg_entry_eq]
  generalize (lg_sl ([.ref a0, .int x1]) ++ List.replicate (5 - (lg_sl ([.ref a0, .int x1])).length) Slot.unset).toArray = ls at hl ⊢
  have hl : lv_has ls 5 [(0, .ref a0), (1, .int x1)] := hl
  have hS : va_S (· ∈ g.L) s.heap s.heap [] := va_S.rf
  unfold F_Model_committing at h
  refine lv_aload_n hx hb d_Model_committing_0 rfl (lv_at hl 0 rfl) ?_
  refine lv_iload_n hx hb d_Model_committing_1 rfl (lv_at hl 1 rfl) ?_
  refine lv_iconst (v := 0) hx hb d_Model_committing_2 (by decide) ?_
  obtain ⟨v3, e3, h⟩ := ob_el h
  refine gg_Vi (As := [.int x1, .int (0 : Int32)]) (rest := []) (ci := 5) (C := R_Model) (T := F_Model) (N := 23) ⟨hx, hb, hml, hown, hall⟩ (c_Model_touches l hT o0 e3) (cwV 2 hall (gV m_456 m_457 m_458 m_338 m_426) rfl rfl rfl (by decide +kernel) ⟨Nat.le_of_ble_eq_true rfl, Nat.le_of_ble_eq_true rfl⟩) hK hP hS o0.1 (wE_5 o0.2) rfl rfl hl.1 rfl (Nat.le_of_ble_eq_true rfl) d_Model_committing_3 (fun H locs hP hS => ?_)
  refine lv_if_eq hx hb d_Model_committing_6 rfl (fun hc => ?_) (fun hc => ?_)
  · replace h := i_pos hc h
    exact b_Model_committing_22 cx _ _ _ _ _ _ o0 h hP hS (lv_sub hl [0, 1] rfl)
  · replace h := i_neg hc h
    refine lv_aload_n hx hb d_Model_committing_9 rfl (lv_at hl 0 rfl) ?_
    refine lv_iload_n hx hb d_Model_committing_10 rfl (lv_at hl 1 rfl) ?_
    refine lv_iconst (v := 1) hx hb d_Model_committing_11 (by decide) ?_
    obtain ⟨v12, e12, h⟩ := ob_el h
    refine gg_Vi (As := [.int x1, .int (1 : Int32)]) (rest := []) (ci := 5) (C := R_Model) (T := F_Model) (N := 23) ⟨hx, hb, hml, hown, hall⟩ (c_Model_touches l hT o0 e12) (cwV 2 hall (gV m_456 m_457 m_458 m_338 m_426) rfl rfl rfl (by decide +kernel) ⟨Nat.le_of_ble_eq_true rfl, Nat.le_of_ble_eq_true rfl⟩) hK hP hS o0.1 (wE_5 o0.2) rfl rfl hl.1 rfl (Nat.le_of_ble_eq_true rfl) d_Model_committing_12 (fun H locs hP hS => ?_)
    refine lv_if_eq hx hb d_Model_committing_15 rfl (fun hc => ?_) (fun hc => ?_)
    · replace h := i_pos hc h
      exact b_Model_committing_22 cx _ _ _ _ _ _ o0 h hP hS (lv_sub hl [0, 1] rfl)
    · replace h := i_neg hc h
      refine lv_iconst (v := 1) hx hb d_Model_committing_18 (by decide) ?_
      refine lv_goto hx hb d_Model_committing_19 rfl ?_
      exact b_Model_committing_23 cx _ _ _ _ _ _ _ o0 h hP hS (lv_sub hl [0, 1] rfl)
end
