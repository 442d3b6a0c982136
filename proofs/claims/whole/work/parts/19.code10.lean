section
abbrev b_Store_commit : ByteArray := prog_1_method_12_code
def y_Store_commit : MethodName := ⟨"StampedStore", "commit", "(I)I"⟩
def w_Store_commit : List Cond := .code y_Store_commit b_Store_commit 4 (some .int) :: w_all
theorem d_Store_commit_0 : decode b_Store_commit 0 = .ok (.aload_n 0, 1) := by decide +kernel
theorem d_Store_commit_1 : decode b_Store_commit 1 = .ok (.iload_n 1, 1) := by decide +kernel
theorem d_Store_commit_2 : decode b_Store_commit 2 = .ok (.invokevirtual 122, 3) := by decide +kernel
theorem d_Store_commit_5 : decode b_Store_commit 5 = .ok (.ifCond .ne 5, 3) := by decide +kernel
theorem d_Store_commit_8 : decode b_Store_commit 8 = .ok (.iconst (-1), 1) := by decide +kernel
theorem d_Store_commit_9 : decode b_Store_commit 9 = .ok (.ireturn, 1) := by decide +kernel
theorem d_Store_commit_10 : decode b_Store_commit 10 = .ok (.aload_n 0, 1) := by decide +kernel
theorem d_Store_commit_11 : decode b_Store_commit 11 = .ok (.getfield 17, 3) := by decide +kernel
theorem d_Store_commit_14 : decode b_Store_commit 14 = .ok (.iload_n 1, 1) := by decide +kernel
theorem d_Store_commit_15 : decode b_Store_commit 15 = .ok (.aaload, 1) := by decide +kernel
theorem d_Store_commit_16 : decode b_Store_commit 16 = .ok (.astore_n 2, 1) := by decide +kernel
theorem d_Store_commit_17 : decode b_Store_commit 17 = .ok (.aload_n 2, 1) := by decide +kernel
theorem d_Store_commit_18 : decode b_Store_commit 18 = .ok (.getfield 128, 3) := by decide +kernel
theorem d_Store_commit_21 : decode b_Store_commit 21 = .ok (.ifCond .eq 6, 3) := by decide +kernel
theorem d_Store_commit_24 : decode b_Store_commit 24 = .ok (.bipush (-2), 2) := by decide +kernel
theorem d_Store_commit_26 : decode b_Store_commit 26 = .ok (.ireturn, 1) := by decide +kernel
theorem d_Store_commit_27 : decode b_Store_commit 27 = .ok (.aload_n 0, 1) := by decide +kernel
theorem d_Store_commit_28 : decode b_Store_commit 28 = .ok (.aload_n 2, 1) := by decide +kernel
theorem d_Store_commit_29 : decode b_Store_commit 29 = .ok (.invokevirtual 161, 3) := by decide +kernel
theorem d_Store_commit_32 : decode b_Store_commit 32 = .ok (.ifCond .eq 6, 3) := by decide +kernel
theorem d_Store_commit_35 : decode b_Store_commit 35 = .ok (.bipush (-3), 2) := by decide +kernel
theorem d_Store_commit_37 : decode b_Store_commit 37 = .ok (.ireturn, 1) := by decide +kernel
theorem d_Store_commit_38 : decode b_Store_commit 38 = .ok (.aload_n 0, 1) := by decide +kernel
theorem d_Store_commit_39 : decode b_Store_commit 39 = .ok (.aload_n 2, 1) := by decide +kernel
theorem d_Store_commit_40 : decode b_Store_commit 40 = .ok (.iconst 0, 1) := by decide +kernel
theorem d_Store_commit_41 : decode b_Store_commit 41 = .ok (.invokevirtual 144, 3) := by decide +kernel
theorem d_Store_commit_44 : decode b_Store_commit 44 = .ok (.ifCond .ne 12, 3) := by decide +kernel
theorem d_Store_commit_47 : decode b_Store_commit 47 = .ok (.aload_n 0, 1) := by decide +kernel
theorem d_Store_commit_48 : decode b_Store_commit 48 = .ok (.aload_n 2, 1) := by decide +kernel
theorem d_Store_commit_49 : decode b_Store_commit 49 = .ok (.iconst 1, 1) := by decide +kernel
theorem d_Store_commit_50 : decode b_Store_commit 50 = .ok (.invokevirtual 144, 3) := by decide +kernel
theorem d_Store_commit_53 : decode b_Store_commit 53 = .ok (.ifCond .eq 10, 3) := by decide +kernel
theorem d_Store_commit_56 : decode b_Store_commit 56 = .ok (.aload_n 2, 1) := by decide +kernel
theorem d_Store_commit_57 : decode b_Store_commit 57 = .ok (.iconst 4, 1) := by decide +kernel
theorem d_Store_commit_58 : decode b_Store_commit 58 = .ok (.putfield 128, 3) := by decide +kernel
theorem d_Store_commit_61 : decode b_Store_commit 61 = .ok (.iconst 4, 1) := by decide +kernel
theorem d_Store_commit_62 : decode b_Store_commit 62 = .ok (.ireturn, 1) := by decide +kernel
theorem d_Store_commit_63 : decode b_Store_commit 63 = .ok (.aload_n 2, 1) := by decide +kernel
theorem d_Store_commit_64 : decode b_Store_commit 64 = .ok (.iconst 0, 1) := by decide +kernel
theorem d_Store_commit_65 : decode b_Store_commit 65 = .ok (.invokevirtual 165, 3) := by decide +kernel
theorem d_Store_commit_68 : decode b_Store_commit 68 = .ok (.ifCond .ne 18, 3) := by decide +kernel
theorem d_Store_commit_71 : decode b_Store_commit 71 = .ok (.aload_n 2, 1) := by decide +kernel
theorem d_Store_commit_72 : decode b_Store_commit 72 = .ok (.iconst 1, 1) := by decide +kernel
theorem d_Store_commit_73 : decode b_Store_commit 73 = .ok (.invokevirtual 165, 3) := by decide +kernel
theorem d_Store_commit_76 : decode b_Store_commit 76 = .ok (.ifCond .ne 10, 3) := by decide +kernel
theorem d_Store_commit_79 : decode b_Store_commit 79 = .ok (.aload_n 2, 1) := by decide +kernel
theorem d_Store_commit_80 : decode b_Store_commit 80 = .ok (.iconst 3, 1) := by decide +kernel
theorem d_Store_commit_81 : decode b_Store_commit 81 = .ok (.putfield 128, 3) := by decide +kernel
theorem d_Store_commit_84 : decode b_Store_commit 84 = .ok (.iconst 3, 1) := by decide +kernel
theorem d_Store_commit_85 : decode b_Store_commit 85 = .ok (.ireturn, 1) := by decide +kernel
theorem d_Store_commit_86 : decode b_Store_commit 86 = .ok (.aload_n 0, 1) := by decide +kernel
theorem d_Store_commit_87 : decode b_Store_commit 87 = .ok (.aload_n 2, 1) := by decide +kernel
theorem d_Store_commit_88 : decode b_Store_commit 88 = .ok (.invokevirtual 168, 3) := by decide +kernel
theorem d_Store_commit_91 : decode b_Store_commit 91 = .ok (.istore_n 3, 1) := by decide +kernel
theorem d_Store_commit_92 : decode b_Store_commit 92 = .ok (.iload_n 3, 1) := by decide +kernel
theorem d_Store_commit_93 : decode b_Store_commit 93 = .ok (.ifCond .ge 5, 3) := by decide +kernel
theorem d_Store_commit_96 : decode b_Store_commit 96 = .ok (.iload_n 3, 1) := by decide +kernel
theorem d_Store_commit_97 : decode b_Store_commit 97 = .ok (.ireturn, 1) := by decide +kernel
theorem d_Store_commit_98 : decode b_Store_commit 98 = .ok (.aload_n 0, 1) := by decide +kernel
theorem d_Store_commit_99 : decode b_Store_commit 99 = .ok (.iload_n 1, 1) := by decide +kernel
theorem d_Store_commit_100 : decode b_Store_commit 100 = .ok (.invokevirtual 172, 3) := by decide +kernel
theorem d_Store_commit_103 : decode b_Store_commit 103 = .ok (.ifCond .eq 6, 3) := by decide +kernel
theorem d_Store_commit_106 : decode b_Store_commit 106 = .ok (.bipush (-4), 2) := by decide +kernel
theorem d_Store_commit_108 : decode b_Store_commit 108 = .ok (.ireturn, 1) := by decide +kernel
theorem d_Store_commit_109 : decode b_Store_commit 109 = .ok (.aload_n 0, 1) := by decide +kernel
theorem d_Store_commit_110 : decode b_Store_commit 110 = .ok (.aload_n 2, 1) := by decide +kernel
theorem d_Store_commit_111 : decode b_Store_commit 111 = .ok (.invokevirtual 175, 3) := by decide +kernel
theorem d_Store_commit_114 : decode b_Store_commit 114 = .ok (.aload_n 0, 1) := by decide +kernel
theorem d_Store_commit_115 : decode b_Store_commit 115 = .ok (.iload_n 1, 1) := by decide +kernel
theorem d_Store_commit_116 : decode b_Store_commit 116 = .ok (.invokevirtual 179, 3) := by decide +kernel
theorem d_Store_commit_119 : decode b_Store_commit 119 = .ok (.aload_n 2, 1) := by decide +kernel
theorem d_Store_commit_120 : decode b_Store_commit 120 = .ok (.getfield 128, 3) := by decide +kernel
theorem d_Store_commit_123 : decode b_Store_commit 123 = .ok (.ireturn, 1) := by decide +kernel
def B_Store_commit_56 (R : Nat → Nat → Nat) (a2 : Nat) (I : St) : Option (Int32 × St) := (ap (up2 I a2 3 (4 : Int32)) (fun I58 => some ((4 : Int32), I58)))
set_option maxHeartbeats 4000000 in
set_option maxRecDepth 100000 in
theorem b_Store_commit_56 {p : Program} {l : Launch} {e : Env} {s : State} {m : MethodId} {args : Array Value} {below : List Frame} {meth : Method} {c : Code} {g : Sg} {R : Nat → Nat → Nat} {J : St} {v : Int32} (cx : Cx p s m args meth c g R R_Store b_Store_commit 4 (some .int)) : ∀ (a2 : Nat) (I : St) (H : Heap) (locs : List Loc) (ls : Array Slot), okA g 3 0 a2 → B_Store_commit_56 R a2 I = some (v, J) → wW g R I H → va_S (· ∈ g.L) s.heap H locs → lv_has ls 4 [(2, .ref a2)] → W p l e { frames := 6, cells := 0, slots := 0, locals := 137 } s m args below meth c H locs 0 0 (MQ below (Qi g R v J) args s 0 0 (· ∈ g.L)) (F0 m 56 ls []) := by
  have ⟨hx, hb, hml, hr, hlk, hown, hall, hT, hK⟩ := cx
  intro a2 I H locs ls o2 h hP hS hl
  unfold B_Store_commit_56 at h
  refine lv_aload_n hx hb d_Store_commit_56 rfl (lv_at hl 0 rfl) ?_
  refine lv_iconst (v := 4) hx hb d_Store_commit_57 (by decide) ?_
  refine gg_put (C := R_Txn) (T := F_Txn) (N := 5) (ci := 3) (ty := .int) hx hb hall i_Txn t_Txn t_Txn_ok n_Txn hown hT.1 hK hP hS o2.1 (wE_3 o2.2) rfl 3 (by decide) (hall _ m_229) (fun _ h9 => h9) rfl (by decide +kernel) rfl rfl (Nat.le_of_ble_eq_true rfl) (ws_Txn_3 o2.2) d_Store_commit_58 (fun I58 H locs e58 hP hS => ?_)
  replace h := ap_el e58 h
  refine lv_iconst (v := 4) hx hb d_Store_commit_61 (by decide) ?_
  obtain ⟨rfl, rfl⟩ := rt_el h
  exact gg_iret hx hb hr hlk hK hP hS d_Store_commit_62
def B_Store_commit_86 (R : Nat → Nat → Nat) (a0 : Nat) (x1 : Int32) (a2 : Nat) (I : St) : Option (Int32 × St) := (ob (F_Store_refusalOfGroups R a0 a2 I) (fun v88 => (if 0 ≤ v88 then (ob (F_Store_mustWait R a0 x1 I) (fun v100 => (if v100 = 0 then (ob (F_Store_abortOtherReaders R a0 a2 I) (fun I111 => (ob (F_Store_writeFirstEntries R a0 x1 I111) (fun I116 => some ((I116 a2 3), I116))))) else some ((-4 : Int32), I)))) else some (v88, I))))
set_option maxHeartbeats 4000000 in
set_option maxRecDepth 100000 in
theorem b_Store_commit_86 {p : Program} {l : Launch} {e : Env} {s : State} {m : MethodId} {args : Array Value} {below : List Frame} {meth : Method} {c : Code} {g : Sg} {R : Nat → Nat → Nat} {J : St} {v : Int32} (cx : Cx p s m args meth c g R R_Store b_Store_commit 4 (some .int)) : ∀ (a0 : Nat) (x1 : Int32) (a2 : Nat) (I : St) (H : Heap) (locs : List Loc) (ls : Array Slot), okA g 4 0 a0 → okA g 3 0 a2 → B_Store_commit_86 R a0 x1 a2 I = some (v, J) → wW g R I H → va_S (· ∈ g.L) s.heap H locs → lv_has ls 4 [(0, .ref a0), (1, .int x1), (2, .ref a2)] → W p l e { frames := 6, cells := 0, slots := 0, locals := 137 } s m args below meth c H locs 0 0 (MQ below (Qi g R v J) args s 0 0 (· ∈ g.L)) (F0 m 86 ls []) := by
  have ⟨hx, hb, hml, hr, hlk, hown, hall, hT, hK⟩ := cx
  intro a0 x1 a2 I H locs ls o0 o2 h hP hS hl
  unfold B_Store_commit_86 at h
  refine lv_aload_n hx hb d_Store_commit_86 rfl (lv_at hl 0 rfl) ?_
  refine lv_aload_n hx hb d_Store_commit_87 rfl (lv_at hl 2 rfl) ?_
  obtain ⟨v88, e88, h⟩ := ob_el h
  refine gg_Vi (As := [.ref a2]) (rest := []) (ci := 4) (C := R_Store) (T := F_Store) (N := 4) ⟨hx, hb, hml, hown, hall⟩ (c_Store_refusalOfGroups l hT o0 o2 e88) (cwV 1 hall (gV m_276 m_277 m_278 m_6 m_258) rfl rfl rfl (by decide +kernel) ⟨Nat.le_of_ble_eq_true rfl, Nat.le_of_ble_eq_true rfl⟩) hK hP hS o0.1 (wE_4 o0.2) rfl rfl hl.1 rfl (Nat.le_of_ble_eq_true rfl) d_Store_commit_88 (fun H locs hP hS => ?_)
  refine lv_istore_n (lv' := [(3, .int v88), (0, .ref a0), (1, .int x1), (2, .ref a2)]) hx hb d_Store_commit_91 rfl hl (Nat.le_of_ble_eq_true rfl) rfl (fun ls hl => ?_)
  refine lv_iload_n hx hb d_Store_commit_92 rfl (lv_at hl 0 rfl) ?_
  refine lv_if_ge hx hb d_Store_commit_93 rfl (fun hc => ?_) (fun hc => ?_)
  · replace h := i_pos hc h
    refine lv_aload_n hx hb d_Store_commit_98 rfl (lv_at hl 1 rfl) ?_
    refine lv_iload_n hx hb d_Store_commit_99 rfl (lv_at hl 2 rfl) ?_
    obtain ⟨v100, e100, h⟩ := ob_el h
    refine gg_Vi (As := [.int x1]) (rest := []) (ci := 4) (C := R_Store) (T := F_Store) (N := 4) ⟨hx, hb, hml, hown, hall⟩ (c_Store_mustWait l hT o0 e100) (cwV 1 hall (gV m_279 m_280 m_281 m_6 m_268) rfl rfl rfl (by decide +kernel) ⟨Nat.le_of_ble_eq_true rfl, Nat.le_of_ble_eq_true rfl⟩) hK hP hS o0.1 (wE_4 o0.2) rfl rfl hl.1 rfl (Nat.le_of_ble_eq_true rfl) d_Store_commit_100 (fun H locs hP hS => ?_)
    refine lv_if_eq hx hb d_Store_commit_103 rfl (fun hc => ?_) (fun hc => ?_)
    · replace h := i_pos hc h
      refine lv_aload_n hx hb d_Store_commit_109 rfl (lv_at hl 1 rfl) ?_
      refine lv_aload_n hx hb d_Store_commit_110 rfl (lv_at hl 3 rfl) ?_
      obtain ⟨I111, e111, h⟩ := ob_el h
      refine gg_Vv (As := [.ref a2]) (rest := []) (ci := 4) (C := R_Store) (T := F_Store) (N := 4) ⟨hx, hb, hml, hown, hall⟩ (c_Store_abortOtherReaders l hT o0 o2 e111) (cwV 1 hall (gV m_282 m_283 m_284 m_6 m_269) rfl rfl rfl (by decide +kernel) ⟨Nat.le_of_ble_eq_true rfl, Nat.le_of_ble_eq_true rfl⟩) hK hP hS o0.1 (wE_4 o0.2) rfl rfl hl.1 rfl (Nat.le_of_ble_eq_true rfl) d_Store_commit_111 (fun H locs hP hS => ?_)
      refine lv_aload_n hx hb d_Store_commit_114 rfl (lv_at hl 1 rfl) ?_
      refine lv_iload_n hx hb d_Store_commit_115 rfl (lv_at hl 2 rfl) ?_
      obtain ⟨I116, e116, h⟩ := ob_el h
      refine gg_Vv (As := [.int x1]) (rest := []) (ci := 4) (C := R_Store) (T := F_Store) (N := 4) ⟨hx, hb, hml, hown, hall⟩ (c_Store_writeFirstEntries l hT o0 e116) (cwV 1 hall (gV m_285 m_286 m_287 m_6 m_275) rfl rfl rfl (by decide +kernel) ⟨Nat.le_of_ble_eq_true rfl, Nat.le_of_ble_eq_true rfl⟩) hK hP hS o0.1 (wE_4 o0.2) rfl rfl hl.1 rfl (Nat.le_of_ble_eq_true rfl) d_Store_commit_116 (fun H locs hP hS => ?_)
      refine lv_aload_n hx hb d_Store_commit_119 rfl (lv_at hl 3 rfl) ?_
      refine gg_get (C := R_Txn) (T := F_Txn) (N := 5) (ci := 3) hx hb hall i_Txn hown hK hP o2.1 (wE_3 o2.2) rfl 3 (by decide) (hall _ m_229) (fun _ h9 => h9) rfl d_Store_commit_120 ?_
      obtain ⟨rfl, rfl⟩ := rt_el h
      exact gg_iret hx hb hr hlk hK hP hS d_Store_commit_123
    · replace h := i_neg hc h
      refine lv_bipush (v := (-4)) hx hb d_Store_commit_106 (by decide) ?_
      obtain ⟨rfl, rfl⟩ := rt_el h
      exact gg_iret hx hb hr hlk hK hP hS d_Store_commit_108
  · replace h := i_neg hc h
    refine lv_iload_n hx hb d_Store_commit_96 rfl (lv_at hl 0 rfl) ?_
    obtain ⟨rfl, rfl⟩ := rt_el h
    exact gg_iret hx hb hr hlk hK hP hS d_Store_commit_97
def F_Store_commit (R : Nat → Nat → Nat) (a0 : Nat) (x1 : Int32) (I : St) : Option (Int32 × St) := (ob (F_Store_isTransaction R a0 x1 I) (fun v2 => (if v2 = 0 then some ((-1 : Int32), I) else (chk x1 16 ((if (I (R (R a0 2) x1.toNatClampNeg) 3) = 0 then (ob (F_Store_lacksReadyNode R a0 (R (R a0 2) x1.toNatClampNeg) I) (fun v29 => (if v29 = 0 then (ob (F_Store_hasLostReads R a0 (R (R a0 2) x1.toNatClampNeg) (0 : Int32) I) (fun v41 => (if v41 = 0 then (ob (F_Store_hasLostReads R a0 (R (R a0 2) x1.toNatClampNeg) (1 : Int32) I) (fun v50 => (if v50 = 0 then (ob (F_Txn_writesIn R (R (R a0 2) x1.toNatClampNeg) (0 : Int32) I) (fun v65 => (if v65 = 0 then (ob (F_Txn_writesIn R (R (R a0 2) x1.toNatClampNeg) (1 : Int32) I) (fun v73 => (if v73 = 0 then (ap (up2 I (R (R a0 2) x1.toNatClampNeg) 3 (3 : Int32)) (fun I81 => some ((3 : Int32), I81))) else B_Store_commit_86 R a0 x1 (R (R a0 2) x1.toNatClampNeg) I))) else B_Store_commit_86 R a0 x1 (R (R a0 2) x1.toNatClampNeg) I))) else B_Store_commit_56 R (R (R a0 2) x1.toNatClampNeg) I))) else B_Store_commit_56 R (R (R a0 2) x1.toNatClampNeg) I))) else some ((-3 : Int32), I)))) else some ((-2 : Int32), I)))))))
set_option maxHeartbeats 4000000 in
set_option maxRecDepth 100000 in
theorem c_Store_commit (l : Launch) {g : Sg} {R : Nat → Nat → Nat} (hT : Ty g R) {a0 : Nat} (o0 : okA g 4 0 a0) {x1 : Int32} {I : St} {J : St} {v : Int32} (h : F_Store_commit R a0 x1 I = some (v, J)) : Cti l g R y_Store_commit w_Store_commit 6 137 [.ref a0, .int x1] I v J := by
  unfold Cti
  refine Met.ofW (cc := b_Store_commit) (maxL := 4) (ret := (some .int)) (by decide) rfl ?_
  intro p e s m args below meth c s₁ B hml hv
  obtain ⟨rfl, hP, hK⟩ := hv
  have hts := atoms_spec (ws := w_Store_commit) B.pre
  have hall : ∀ w ∈ w_all, w.before _ s = true := fun w hw => hts w (List.mem_cons_of_mem _ hw)
  have hown : s.vm.findClass R_Store = some m.cls := findClass_of_methodNamed B.named
  have hx := B.exec
  have hb := B.bytes
  have hr := B.returns
  have hlk := B.notSynchronized
  have cx : Cx p s m _ meth c g R R_Store b_Store_commit 4 (some .int) := ⟨hx, hb, hml, hr, hlk, hown, hall, hT, hK⟩
  have hl := lv_entry ([.ref a0, .int x1]) (n := 4) (Nat.le_of_ble_eq_true rfl)
  rw [lg_entry_eq]
  generalize (lg_sl ([.ref a0, .int x1]) ++ List.replicate (4 - (lg_sl ([.ref a0, .int x1])).length) Slot.unset).toArray = ls at hl ⊢
  have hl : lv_has ls 4 [(0, .ref a0), (1, .int x1)] := hl
  have hS : va_S (· ∈ g.L) s.heap s.heap [] := va_S.rf
  unfold F_Store_commit at h
  refine lv_aload_n hx hb d_Store_commit_0 rfl (lv_at hl 0 rfl) ?_
  refine lv_iload_n hx hb d_Store_commit_1 rfl (lv_at hl 1 rfl) ?_
  obtain ⟨v2, e2, h⟩ := ob_el h
  refine gg_Vi (As := [.int x1]) (rest := []) (ci := 4) (C := R_Store) (T := F_Store) (N := 4) ⟨hx, hb, hml, hown, hall⟩ (c_Store_isTransaction l hT o0 e2) (cwV 1 hall (gV m_215 m_216 m_217 m_6 m_160) rfl rfl rfl (by decide +kernel) ⟨Nat.le_of_ble_eq_true rfl, Nat.le_of_ble_eq_true rfl⟩) hK hP hS o0.1 (wE_4 o0.2) rfl rfl hl.1 rfl (Nat.le_of_ble_eq_true rfl) d_Store_commit_2 (fun H locs hP hS => ?_)
  refine lv_if_ne hx hb d_Store_commit_5 rfl (fun hc => ?_) (fun hc => ?_)
  · replace h := i_neg hc h
    refine lv_aload_n hx hb d_Store_commit_10 rfl (lv_at hl 0 rfl) ?_
    refine gg_get (C := R_Store) (T := F_Store) (N := 4) (ci := 4) hx hb hall i_Store hown hK hP o0.1 (wE_4 o0.2) rfl 2 (by decide) (hall _ m_202) (fun _ h9 => h9) rfl d_Store_commit_11 ?_
    have o_11 : okA g 9 16 (R a0 2) := ty_Store_2 hT o0
    refine lv_iload_n hx hb d_Store_commit_14 rfl (lv_at hl 1 rfl) ?_
    obtain ⟨hi15, h⟩ := chk_el h
    refine gg_tald hx hb hK hP o_11 hi15 d_Store_commit_15 ?_
    have o_15 : okA g 3 0 (R (R a0 2) x1.toNatClampNeg) := ty_9 hT o_11 _
    refine lv_astore_n (lv' := [(2, .ref (R (R a0 2) x1.toNatClampNeg)), (0, .ref a0), (1, .int x1)]) hx hb d_Store_commit_16 rfl hl (Nat.le_of_ble_eq_true rfl) rfl (fun ls hl => ?_)
    refine lv_aload_n hx hb d_Store_commit_17 rfl (lv_at hl 0 rfl) ?_
    refine gg_get (C := R_Txn) (T := F_Txn) (N := 5) (ci := 3) hx hb hall i_Txn hown hK hP o_15.1 (wE_3 o_15.2) rfl 3 (by decide) (hall _ m_229) (fun _ h9 => h9) rfl d_Store_commit_18 ?_
    refine lv_if_eq hx hb d_Store_commit_21 rfl (fun hc => ?_) (fun hc => ?_)
    · replace h := i_pos hc h
      refine lv_aload_n hx hb d_Store_commit_27 rfl (lv_at hl 1 rfl) ?_
      refine lv_aload_n hx hb d_Store_commit_28 rfl (lv_at hl 0 rfl) ?_
      obtain ⟨v29, e29, h⟩ := ob_el h
      refine gg_Vi (As := [.ref (R (R a0 2) x1.toNatClampNeg)]) (rest := []) (ci := 4) (C := R_Store) (T := F_Store) (N := 4) ⟨hx, hb, hml, hown, hall⟩ (c_Store_lacksReadyNode l hT o0 o_15 e29) (cwV 1 hall (gV m_288 m_289 m_290 m_6 m_255) rfl rfl rfl (by decide +kernel) ⟨Nat.le_of_ble_eq_true rfl, Nat.le_of_ble_eq_true rfl⟩) hK hP hS o0.1 (wE_4 o0.2) rfl rfl hl.1 rfl (Nat.le_of_ble_eq_true rfl) d_Store_commit_29 (fun H locs hP hS => ?_)
      refine lv_if_eq hx hb d_Store_commit_32 rfl (fun hc => ?_) (fun hc => ?_)
      · replace h := i_pos hc h
        refine lv_aload_n hx hb d_Store_commit_38 rfl (lv_at hl 1 rfl) ?_
        refine lv_aload_n hx hb d_Store_commit_39 rfl (lv_at hl 0 rfl) ?_
        refine lv_iconst (v := 0) hx hb d_Store_commit_40 (by decide) ?_
        obtain ⟨v41, e41, h⟩ := ob_el h
        refine gg_Vi (As := [.ref (R (R a0 2) x1.toNatClampNeg), .int (0 : Int32)]) (rest := []) (ci := 4) (C := R_Store) (T := F_Store) (N := 4) ⟨hx, hb, hml, hown, hall⟩ (c_Store_hasLostReads l hT o0 o_15 e41) (cwV 2 hall (gV m_231 m_232 m_233 m_6 m_184) rfl rfl rfl (by decide +kernel) ⟨Nat.le_of_ble_eq_true rfl, Nat.le_of_ble_eq_true rfl⟩) hK hP hS o0.1 (wE_4 o0.2) rfl rfl hl.1 rfl (Nat.le_of_ble_eq_true rfl) d_Store_commit_41 (fun H locs hP hS => ?_)
        refine lv_if_ne hx hb d_Store_commit_44 rfl (fun hc => ?_) (fun hc => ?_)
        · replace h := i_neg hc h
          exact b_Store_commit_56 cx _ _ _ _ _ o_15 h hP hS (lv_sub hl [0] rfl)
        · replace h := i_pos hc h
          refine lv_aload_n hx hb d_Store_commit_47 rfl (lv_at hl 1 rfl) ?_
          refine lv_aload_n hx hb d_Store_commit_48 rfl (lv_at hl 0 rfl) ?_
          refine lv_iconst (v := 1) hx hb d_Store_commit_49 (by decide) ?_
          obtain ⟨v50, e50, h⟩ := ob_el h
          refine gg_Vi (As := [.ref (R (R a0 2) x1.toNatClampNeg), .int (1 : Int32)]) (rest := []) (ci := 4) (C := R_Store) (T := F_Store) (N := 4) ⟨hx, hb, hml, hown, hall⟩ (c_Store_hasLostReads l hT o0 o_15 e50) (cwV 2 hall (gV m_231 m_232 m_233 m_6 m_184) rfl rfl rfl (by decide +kernel) ⟨Nat.le_of_ble_eq_true rfl, Nat.le_of_ble_eq_true rfl⟩) hK hP hS o0.1 (wE_4 o0.2) rfl rfl hl.1 rfl (Nat.le_of_ble_eq_true rfl) d_Store_commit_50 (fun H locs hP hS => ?_)
          refine lv_if_eq hx hb d_Store_commit_53 rfl (fun hc => ?_) (fun hc => ?_)
          · replace h := i_pos hc h
            refine lv_aload_n hx hb d_Store_commit_63 rfl (lv_at hl 0 rfl) ?_
            refine lv_iconst (v := 0) hx hb d_Store_commit_64 (by decide) ?_
            obtain ⟨v65, e65, h⟩ := ob_el h
            refine gg_Vi (As := [.int (0 : Int32)]) (rest := []) (ci := 3) (C := R_Txn) (T := F_Txn) (N := 5) ⟨hx, hb, hml, hown, hall⟩ (c_Txn_writesIn l hT o_15 e65) (cwV 1 hall (gV m_291 m_249 m_250 m_180 m_247) rfl rfl rfl (by decide +kernel) ⟨Nat.le_of_ble_eq_true rfl, Nat.le_of_ble_eq_true rfl⟩) hK hP hS o_15.1 (wE_3 o_15.2) rfl rfl hl.1 rfl (Nat.le_of_ble_eq_true rfl) d_Store_commit_65 (fun H locs hP hS => ?_)
            refine lv_if_ne hx hb d_Store_commit_68 rfl (fun hc => ?_) (fun hc => ?_)
            · replace h := i_neg hc h
              exact b_Store_commit_86 cx _ _ _ _ _ _ _ o0 o_15 h hP hS (lv_sub hl [1, 2, 0] rfl)
            · replace h := i_pos hc h
              refine lv_aload_n hx hb d_Store_commit_71 rfl (lv_at hl 0 rfl) ?_
              refine lv_iconst (v := 1) hx hb d_Store_commit_72 (by decide) ?_
              obtain ⟨v73, e73, h⟩ := ob_el h
              refine gg_Vi (As := [.int (1 : Int32)]) (rest := []) (ci := 3) (C := R_Txn) (T := F_Txn) (N := 5) ⟨hx, hb, hml, hown, hall⟩ (c_Txn_writesIn l hT o_15 e73) (cwV 1 hall (gV m_291 m_249 m_250 m_180 m_247) rfl rfl rfl (by decide +kernel) ⟨Nat.le_of_ble_eq_true rfl, Nat.le_of_ble_eq_true rfl⟩) hK hP hS o_15.1 (wE_3 o_15.2) rfl rfl hl.1 rfl (Nat.le_of_ble_eq_true rfl) d_Store_commit_73 (fun H locs hP hS => ?_)
              refine lv_if_ne hx hb d_Store_commit_76 rfl (fun hc => ?_) (fun hc => ?_)
              · replace h := i_neg hc h
                exact b_Store_commit_86 cx _ _ _ _ _ _ _ o0 o_15 h hP hS (lv_sub hl [1, 2, 0] rfl)
              · replace h := i_pos hc h
                refine lv_aload_n hx hb d_Store_commit_79 rfl (lv_at hl 0 rfl) ?_
                refine lv_iconst (v := 3) hx hb d_Store_commit_80 (by decide) ?_
                refine gg_put (C := R_Txn) (T := F_Txn) (N := 5) (ci := 3) (ty := .int) hx hb hall i_Txn t_Txn t_Txn_ok n_Txn hown hT.1 hK hP hS o_15.1 (wE_3 o_15.2) rfl 3 (by decide) (hall _ m_229) (fun _ h9 => h9) rfl (by decide +kernel) rfl rfl (Nat.le_of_ble_eq_true rfl) (ws_Txn_3 o_15.2) d_Store_commit_81 (fun I81 H locs e81 hP hS => ?_)
                replace h := ap_el e81 h
                refine lv_iconst (v := 3) hx hb d_Store_commit_84 (by decide) ?_
                obtain ⟨rfl, rfl⟩ := rt_el h
                exact gg_iret hx hb hr hlk hK hP hS d_Store_commit_85
          · replace h := i_neg hc h
            exact b_Store_commit_56 cx _ _ _ _ _ o_15 h hP hS (lv_sub hl [0] rfl)
      · replace h := i_neg hc h
        refine lv_bipush (v := (-3)) hx hb d_Store_commit_35 (by decide) ?_
        obtain ⟨rfl, rfl⟩ := rt_el h
        exact gg_iret hx hb hr hlk hK hP hS d_Store_commit_37
    · replace h := i_neg hc h
      refine lv_bipush (v := (-2)) hx hb d_Store_commit_24 (by decide) ?_
      obtain ⟨rfl, rfl⟩ := rt_el h
      exact gg_iret hx hb hr hlk hK hP hS d_Store_commit_26
  · replace h := i_pos hc h
    refine lv_iconst (v := (-1)) hx hb d_Store_commit_8 (by decide) ?_
    obtain ⟨rfl, rfl⟩ := rt_el h
    exact gg_iret hx hb hr hlk hK hP hS d_Store_commit_9
abbrev b_Store_abort : ByteArray := prog_1_method_13_code
def y_Store_abort : MethodName := ⟨"StampedStore", "abort", "(I)Z"⟩
def w_Store_abort : List Cond := .code y_Store_abort b_Store_abort 2 (some .boolean) :: w_all
theorem d_Store_abort_0 : decode b_Store_abort 0 = .ok (.aload_n 0, 1) := by decide +kernel
theorem d_Store_abort_1 : decode b_Store_abort 1 = .ok (.iload_n 1, 1) := by decide +kernel
theorem d_Store_abort_2 : decode b_Store_abort 2 = .ok (.invokevirtual 122, 3) := by decide +kernel
theorem d_Store_abort_5 : decode b_Store_abort 5 = .ok (.ifCond .eq 15, 3) := by decide +kernel
theorem d_Store_abort_8 : decode b_Store_abort 8 = .ok (.aload_n 0, 1) := by decide +kernel
theorem d_Store_abort_9 : decode b_Store_abort 9 = .ok (.getfield 17, 3) := by decide +kernel
theorem d_Store_abort_12 : decode b_Store_abort 12 = .ok (.iload_n 1, 1) := by decide +kernel
theorem d_Store_abort_13 : decode b_Store_abort 13 = .ok (.aaload, 1) := by decide +kernel
theorem d_Store_abort_14 : decode b_Store_abort 14 = .ok (.getfield 128, 3) := by decide +kernel
theorem d_Store_abort_17 : decode b_Store_abort 17 = .ok (.ifCond .eq 5, 3) := by decide +kernel
theorem d_Store_abort_20 : decode b_Store_abort 20 = .ok (.iconst 0, 1) := by decide +kernel
theorem d_Store_abort_21 : decode b_Store_abort 21 = .ok (.ireturn, 1) := by decide +kernel
theorem d_Store_abort_22 : decode b_Store_abort 22 = .ok (.aload_n 0, 1) := by decide +kernel
theorem d_Store_abort_23 : decode b_Store_abort 23 = .ok (.getfield 17, 3) := by decide +kernel
theorem d_Store_abort_26 : decode b_Store_abort 26 = .ok (.iload_n 1, 1) := by decide +kernel
theorem d_Store_abort_27 : decode b_Store_abort 27 = .ok (.aaload, 1) := by decide +kernel
theorem d_Store_abort_28 : decode b_Store_abort 28 = .ok (.iconst 4, 1) := by decide +kernel
theorem d_Store_abort_29 : decode b_Store_abort 29 = .ok (.putfield 128, 3) := by decide +kernel
theorem d_Store_abort_32 : decode b_Store_abort 32 = .ok (.iconst 1, 1) := by decide +kernel
theorem d_Store_abort_33 : decode b_Store_abort 33 = .ok (.ireturn, 1) := by decide +kernel
def B_Store_abort_20 (R : Nat → Nat → Nat) (I : St) : Option (Int32 × St) := some ((0 : Int32), I)
set_option maxHeartbeats 4000000 in
set_option maxRecDepth 100000 in
theorem b_Store_abort_20 {p : Program} {l : Launch} {e : Env} {s : State} {m : MethodId} {args : Array Value} {below : List Frame} {meth : Method} {c : Code} {g : Sg} {R : Nat → Nat → Nat} {J : St} {v : Int32} (cx : Cx p s m args meth c g R R_Store b_Store_abort 2 (some .boolean)) : ∀ (I : St) (H : Heap) (locs : List Loc) (ls : Array Slot), B_Store_abort_20 R I = some (v, J) → wW g R I H → va_S (· ∈ g.L) s.heap H locs → lv_has ls 2 [] → W p l e { frames := 1, cells := 0, slots := 0, locals := 21 } s m args below meth c H locs 0 0 (MQ below (Qi g R v J) args s 0 0 (· ∈ g.L)) (F0 m 20 ls []) := by
  have ⟨hx, hb, hml, hr, hlk, hown, hall, hT, hK⟩ := cx
  intro I H locs ls h hP hS hl
  unfold B_Store_abort_20 at h
  refine lv_iconst (v := 0) hx hb d_Store_abort_20 (by decide) ?_
  obtain ⟨rfl, rfl⟩ := rt_el h
  exact gg_zret hx hb hr hlk rfl hK hP hS d_Store_abort_21
def F_Store_abort (R : Nat → Nat → Nat) (a0 : Nat) (x1 : Int32) (I : St) : Option (Int32 × St) := (ob (F_Store_isTransaction R a0 x1 I) (fun v2 => (if v2 = 0 then B_Store_abort_20 R I else (chk x1 16 ((if (I (R (R a0 2) x1.toNatClampNeg) 3) = 0 then (chk x1 16 ((ap (up2 I (R (R a0 2) x1.toNatClampNeg) 3 (4 : Int32)) (fun I29 => some ((1 : Int32), I29))))) else B_Store_abort_20 R I))))))
set_option maxHeartbeats 4000000 in
set_option maxRecDepth 100000 in
theorem c_Store_abort (l : Launch) {g : Sg} {R : Nat → Nat → Nat} (hT : Ty g R) {a0 : Nat} (o0 : okA g 4 0 a0) {x1 : Int32} {I : St} {J : St} {v : Int32} (h : F_Store_abort R a0 x1 I = some (v, J)) : Cti l g R y_Store_abort w_Store_abort 1 21 [.ref a0, .int x1] I v J := by
  unfold Cti
  refine Met.ofW (cc := b_Store_abort) (maxL := 2) (ret := (some .boolean)) (by decide) rfl ?_
  intro p e s m args below meth c s₁ B hml hv
  obtain ⟨rfl, hP, hK⟩ := hv
  have hts := atoms_spec (ws := w_Store_abort) B.pre
  have hall : ∀ w ∈ w_all, w.before _ s = true := fun w hw => hts w (List.mem_cons_of_mem _ hw)
  have hown : s.vm.findClass R_Store = some m.cls := findClass_of_methodNamed B.named
  have hx := B.exec
  have hb := B.bytes
  have hr := B.returns
  have hlk := B.notSynchronized
  have cx : Cx p s m _ meth c g R R_Store b_Store_abort 2 (some .boolean) := ⟨hx, hb, hml, hr, hlk, hown, hall, hT, hK⟩
  have hl := lv_entry ([.ref a0, .int x1]) (n := 2) (Nat.le_of_ble_eq_true rfl)
  rw [lg_entry_eq]
  generalize (lg_sl ([.ref a0, .int x1]) ++ List.replicate (2 - (lg_sl ([.ref a0, .int x1])).length) Slot.unset).toArray = ls at hl ⊢
  have hl : lv_has ls 2 [(0, .ref a0), (1, .int x1)] := hl
  have hS : va_S (· ∈ g.L) s.heap s.heap [] := va_S.rf
  unfold F_Store_abort at h
  refine lv_aload_n hx hb d_Store_abort_0 rfl (lv_at hl 0 rfl) ?_
  refine lv_iload_n hx hb d_Store_abort_1 rfl (lv_at hl 1 rfl) ?_
  obtain ⟨v2, e2, h⟩ := ob_el h
  refine gg_Vi (As := [.int x1]) (rest := []) (ci := 4) (C := R_Store) (T := F_Store) (N := 4) ⟨hx, hb, hml, hown, hall⟩ (c_Store_isTransaction l hT o0 e2) (cwV 1 hall (gV m_215 m_216 m_217 m_6 m_160) rfl rfl rfl (by decide +kernel) ⟨Nat.le_of_ble_eq_true rfl, Nat.le_of_ble_eq_true rfl⟩) hK hP hS o0.1 (wE_4 o0.2) rfl rfl hl.1 rfl (Nat.le_of_ble_eq_true rfl) d_Store_abort_2 (fun H locs hP hS => ?_)
  refine lv_if_eq hx hb d_Store_abort_5 rfl (fun hc => ?_) (fun hc => ?_)
  · replace h := i_pos hc h
    exact b_Store_abort_20 cx _ _ _ _ h hP hS (lv_sub hl [] rfl)
  · replace h := i_neg hc h
    refine lv_aload_n hx hb d_Store_abort_8 rfl (lv_at hl 0 rfl) ?_
    refine gg_get (C := R_Store) (T := F_Store) (N := 4) (ci := 4) hx hb hall i_Store hown hK hP o0.1 (wE_4 o0.2) rfl 2 (by decide) (hall _ m_202) (fun _ h9 => h9) rfl d_Store_abort_9 ?_
    have o_9 : okA g 9 16 (R a0 2) := ty_Store_2 hT o0
    refine lv_iload_n hx hb d_Store_abort_12 rfl (lv_at hl 1 rfl) ?_
    obtain ⟨hi13, h⟩ := chk_el h
    refine gg_tald hx hb hK hP o_9 hi13 d_Store_abort_13 ?_
    have o_13 : okA g 3 0 (R (R a0 2) x1.toNatClampNeg) := ty_9 hT o_9 _
    refine gg_get (C := R_Txn) (T := F_Txn) (N := 5) (ci := 3) hx hb hall i_Txn hown hK hP o_13.1 (wE_3 o_13.2) rfl 3 (by decide) (hall _ m_229) (fun _ h9 => h9) rfl d_Store_abort_14 ?_
    refine lv_if_eq hx hb d_Store_abort_17 rfl (fun hc => ?_) (fun hc => ?_)
    · replace h := i_pos hc h
      refine lv_aload_n hx hb d_Store_abort_22 rfl (lv_at hl 0 rfl) ?_
      refine gg_get (C := R_Store) (T := F_Store) (N := 4) (ci := 4) hx hb hall i_Store hown hK hP o0.1 (wE_4 o0.2) rfl 2 (by decide) (hall _ m_202) (fun _ h9 => h9) rfl d_Store_abort_23 ?_
      have o_23 : okA g 9 16 (R a0 2) := ty_Store_2 hT o0
      refine lv_iload_n hx hb d_Store_abort_26 rfl (lv_at hl 1 rfl) ?_
      obtain ⟨hi27, h⟩ := chk_el h
      refine gg_tald hx hb hK hP o_23 hi27 d_Store_abort_27 ?_
      have o_27 : okA g 3 0 (R (R a0 2) x1.toNatClampNeg) := ty_9 hT o_23 _
      refine lv_iconst (v := 4) hx hb d_Store_abort_28 (by decide) ?_
      refine gg_put (C := R_Txn) (T := F_Txn) (N := 5) (ci := 3) (ty := .int) hx hb hall i_Txn t_Txn t_Txn_ok n_Txn hown hT.1 hK hP hS o_27.1 (wE_3 o_27.2) rfl 3 (by decide) (hall _ m_229) (fun _ h9 => h9) rfl (by decide +kernel) rfl rfl (Nat.le_of_ble_eq_true rfl) (ws_Txn_3 o_27.2) d_Store_abort_29 (fun I29 H locs e29 hP hS => ?_)
      replace h := ap_el e29 h
      refine lv_iconst (v := 1) hx hb d_Store_abort_32 (by decide) ?_
      obtain ⟨rfl, rfl⟩ := rt_el h
      exact gg_zret hx hb hr hlk rfl hK hP hS d_Store_abort_33
    · replace h := i_neg hc h
      exact b_Store_abort_20 cx _ _ _ _ h hP hS (lv_sub hl [] rfl)
abbrev b_Log_stampOf : ByteArray := prog_3_method_12_code
def y_Log_stampOf : MethodName := ⟨"StampedStore$Log", "stampOf", "(II)I"⟩
def w_Log_stampOf : List Cond := .code y_Log_stampOf b_Log_stampOf 4 (some .int) :: w_all
theorem d_Log_stampOf_0 : decode b_Log_stampOf 0 = .ok (.aload_n 0, 1) := by decide +kernel
theorem d_Log_stampOf_1 : decode b_Log_stampOf 1 = .ok (.iload_n 1, 1) := by decide +kernel
theorem d_Log_stampOf_2 : decode b_Log_stampOf 2 = .ok (.iload_n 2, 1) := by decide +kernel
theorem d_Log_stampOf_3 : decode b_Log_stampOf 3 = .ok (.invokevirtual 48, 3) := by decide +kernel
theorem d_Log_stampOf_6 : decode b_Log_stampOf 6 = .ok (.istore_n 3, 1) := by decide +kernel
theorem d_Log_stampOf_7 : decode b_Log_stampOf 7 = .ok (.iload_n 3, 1) := by decide +kernel
theorem d_Log_stampOf_8 : decode b_Log_stampOf 8 = .ok (.iconst (-1), 1) := by decide +kernel
theorem d_Log_stampOf_9 : decode b_Log_stampOf 9 = .ok (.if_icmp .ne 7, 3) := by decide +kernel
theorem d_Log_stampOf_12 : decode b_Log_stampOf 12 = .ok (.iconst (-1), 1) := by decide +kernel
theorem d_Log_stampOf_13 : decode b_Log_stampOf 13 = .ok (.goto 9, 3) := by decide +kernel
theorem d_Log_stampOf_16 : decode b_Log_stampOf 16 = .ok (.aload_n 0, 1) := by decide +kernel
theorem d_Log_stampOf_17 : decode b_Log_stampOf 17 = .ok (.getfield 15, 3) := by decide +kernel
theorem d_Log_stampOf_20 : decode b_Log_stampOf 20 = .ok (.iload_n 3, 1) := by decide +kernel
theorem d_Log_stampOf_21 : decode b_Log_stampOf 21 = .ok (.iaload, 1) := by decide +kernel
theorem d_Log_stampOf_22 : decode b_Log_stampOf 22 = .ok (.ireturn, 1) := by decide +kernel
def F_Log_stampOf (R : Nat → Nat → Nat) (a0 : Nat) (x1 : Int32) (x2 : Int32) (I : St) : Option Int32 := (ob (F_Log_find R a0 x1 x2 I) (fun v3 => (if v3 = (-1 : Int32) then some (-1 : Int32) else (chk v3 60 (some (I (R a0 1) v3.toNatClampNeg))))))
set_option maxHeartbeats 4000000 in
set_option maxRecDepth 100000 in
theorem c_Log_stampOf (l : Launch) {g : Sg} {R : Nat → Nat → Nat} (hT : Ty g R) {a0 : Nat} (o0 : okA g 1 0 a0) {x1 : Int32} {x2 : Int32} {I : St} {v : Int32} (h : F_Log_stampOf R a0 x1 x2 I = some v) : Cti l g R y_Log_stampOf w_Log_stampOf 1 23 [.ref a0, .int x1, .int x2] I v I := by
  unfold Cti
  refine Met.ofW (cc := b_Log_stampOf) (maxL := 4) (ret := (some .int)) (by decide) rfl ?_
  intro p e s m args below meth c s₁ B hml hv
  obtain ⟨rfl, hP, hK⟩ := hv
  have hts := atoms_spec (ws := w_Log_stampOf) B.pre
  have hall : ∀ w ∈ w_all, w.before _ s = true := fun w hw => hts w (List.mem_cons_of_mem _ hw)
  have hown : s.vm.findClass R_Log = some m.cls := findClass_of_methodNamed B.named
  have hx := B.exec
  have hb := B.bytes
  have hr := B.returns
  have hlk := B.notSynchronized
  have cx : Cx p s m _ meth c g R R_Log b_Log_stampOf 4 (some .int) := ⟨hx, hb, hml, hr, hlk, hown, hall, hT, hK⟩
  have hl := lv_entry ([.ref a0, .int x1, .int x2]) (n := 4) (Nat.le_of_ble_eq_true rfl)
  rw [lg_entry_eq]
  generalize (lg_sl ([.ref a0, .int x1, .int x2]) ++ List.replicate (4 - (lg_sl ([.ref a0, .int x1, .int x2])).length) Slot.unset).toArray = ls at hl ⊢
  have hl : lv_has ls 4 [(0, .ref a0), (1, .int x1), (2, .int x2)] := hl
  have hS : va_S (· ∈ g.L) s.heap s.heap [] := va_S.rf
  unfold F_Log_stampOf at h
  refine lv_aload_n hx hb d_Log_stampOf_0 rfl (lv_at hl 0 rfl) ?_
  refine lv_iload_n hx hb d_Log_stampOf_1 rfl (lv_at hl 1 rfl) ?_
  refine lv_iload_n hx hb d_Log_stampOf_2 rfl (lv_at hl 2 rfl) ?_
  obtain ⟨v3, e3, h⟩ := ob_el h
  refine gg_Vi (As := [.int x1, .int x2]) (rest := []) (ci := 1) (C := R_Log) (T := F_Log) (N := 7) ⟨hx, hb, hml, hown, hall⟩ (c_Log_find l hT o0 e3) (cwV 2 hall (gV m_186 m_187 m_188 m_38 m_185) rfl rfl rfl (by decide +kernel) ⟨Nat.le_of_ble_eq_true rfl, Nat.le_of_ble_eq_true rfl⟩) hK hP hS o0.1 (wE_1 o0.2) rfl rfl hl.1 rfl (Nat.le_of_ble_eq_true rfl) d_Log_stampOf_3 (fun H locs hP hS => ?_)
  refine lv_istore_n (lv' := [(3, .int v3), (0, .ref a0), (1, .int x1), (2, .int x2)]) hx hb d_Log_stampOf_6 rfl hl (Nat.le_of_ble_eq_true rfl) rfl (fun ls hl => ?_)
  refine lv_iload_n hx hb d_Log_stampOf_7 rfl (lv_at hl 0 rfl) ?_
  refine lv_iconst (v := (-1)) hx hb d_Log_stampOf_8 (by decide) ?_
  refine lv_icmp_ne hx hb d_Log_stampOf_9 rfl (fun hc => ?_) (fun hc => ?_)
  · replace h := i_neg hc h
    refine lv_aload_n hx hb d_Log_stampOf_16 rfl (lv_at hl 1 rfl) ?_
    refine gg_get (C := R_Log) (T := F_Log) (N := 7) (ci := 1) hx hb hall i_Log hown hK hP o0.1 (wE_1 o0.2) rfl 1 (by decide) (hall _ m_73) (fun _ h9 => h9) rfl d_Log_stampOf_17 ?_
    have o_17 : okA g 6 60 (R a0 1) := ty_Log_1 hT o0
    refine lv_iload_n hx hb d_Log_stampOf_20 rfl (lv_at hl 0 rfl) ?_
    obtain ⟨hi21, h⟩ := chk_el h
    refine gg_iald hx hb hK hP o_17 hi21 d_Log_stampOf_21 ?_
    obtain rfl := Option.some.inj h
    exact gg_iret hx hb hr hlk hK hP hS d_Log_stampOf_22
  · replace h := i_pos hc h
    refine lv_iconst (v := (-1)) hx hb d_Log_stampOf_12 (by decide) ?_
    refine lv_goto hx hb d_Log_stampOf_13 rfl ?_
    obtain rfl := Option.some.inj h
    exact gg_iret hx hb hr hlk hK hP hS d_Log_stampOf_22
abbrev b_Store_stepPreparing : ByteArray := prog_1_method_43_code
def y_Store_stepPreparing : MethodName := ⟨"StampedStore", "stepPreparing", "(I)I"⟩
def w_Store_stepPreparing : List Cond := .code y_Store_stepPreparing b_Store_stepPreparing 8 (some .int) :: w_all
theorem d_Store_stepPreparing_0 : decode b_Store_stepPreparing 0 = .ok (.aload_n 0, 1) := by decide +kernel
theorem d_Store_stepPreparing_1 : decode b_Store_stepPreparing 1 = .ok (.iconst 0, 1) := by decide +kernel
theorem d_Store_stepPreparing_2 : decode b_Store_stepPreparing 2 = .ok (.invokevirtual 141, 3) := by decide +kernel
theorem d_Store_stepPreparing_5 : decode b_Store_stepPreparing 5 = .ok (.istore_n 2, 1) := by decide +kernel
theorem d_Store_stepPreparing_6 : decode b_Store_stepPreparing 6 = .ok (.aload_n 0, 1) := by decide +kernel
theorem d_Store_stepPreparing_7 : decode b_Store_stepPreparing 7 = .ok (.iconst 1, 1) := by decide +kernel
theorem d_Store_stepPreparing_8 : decode b_Store_stepPreparing 8 = .ok (.invokevirtual 141, 3) := by decide +kernel
theorem d_Store_stepPreparing_11 : decode b_Store_stepPreparing 11 = .ok (.istore_n 3, 1) := by decide +kernel
theorem d_Store_stepPreparing_12 : decode b_Store_stepPreparing 12 = .ok (.iload_n 2, 1) := by decide +kernel
theorem d_Store_stepPreparing_13 : decode b_Store_stepPreparing 13 = .ok (.iconst (-1), 1) := by decide +kernel
theorem d_Store_stepPreparing_14 : decode b_Store_stepPreparing 14 = .ok (.if_icmp .eq 8, 3) := by decide +kernel
theorem d_Store_stepPreparing_17 : decode b_Store_stepPreparing 17 = .ok (.iload_n 3, 1) := by decide +kernel
theorem d_Store_stepPreparing_18 : decode b_Store_stepPreparing 18 = .ok (.iconst (-1), 1) := by decide +kernel
theorem d_Store_stepPreparing_19 : decode b_Store_stepPreparing 19 = .ok (.if_icmp .ne 6, 3) := by decide +kernel
theorem d_Store_stepPreparing_22 : decode b_Store_stepPreparing 22 = .ok (.bipush (-3), 2) := by decide +kernel
theorem d_Store_stepPreparing_24 : decode b_Store_stepPreparing 24 = .ok (.ireturn, 1) := by decide +kernel
theorem d_Store_stepPreparing_25 : decode b_Store_stepPreparing 25 = .ok (.aload_n 0, 1) := by decide +kernel
theorem d_Store_stepPreparing_26 : decode b_Store_stepPreparing 26 = .ok (.getfield 11, 3) := by decide +kernel
theorem d_Store_stepPreparing_29 : decode b_Store_stepPreparing 29 = .ok (.iload_n 2, 1) := by decide +kernel
theorem d_Store_stepPreparing_30 : decode b_Store_stepPreparing 30 = .ok (.aaload, 1) := by decide +kernel
theorem d_Store_stepPreparing_31 : decode b_Store_stepPreparing 31 = .ok (.getfield 97, 3) := by decide +kernel
theorem d_Store_stepPreparing_34 : decode b_Store_stepPreparing 34 = .ok (.astore 4, 2) := by decide +kernel
theorem d_Store_stepPreparing_36 : decode b_Store_stepPreparing 36 = .ok (.aload_n 0, 1) := by decide +kernel
theorem d_Store_stepPreparing_37 : decode b_Store_stepPreparing 37 = .ok (.getfield 11, 3) := by decide +kernel
theorem d_Store_stepPreparing_40 : decode b_Store_stepPreparing 40 = .ok (.iload_n 3, 1) := by decide +kernel
theorem d_Store_stepPreparing_41 : decode b_Store_stepPreparing 41 = .ok (.aaload, 1) := by decide +kernel
theorem d_Store_stepPreparing_42 : decode b_Store_stepPreparing 42 = .ok (.getfield 97, 3) := by decide +kernel
theorem d_Store_stepPreparing_45 : decode b_Store_stepPreparing 45 = .ok (.astore 5, 2) := by decide +kernel
theorem d_Store_stepPreparing_47 : decode b_Store_stepPreparing 47 = .ok (.aload 4, 2) := by decide +kernel
theorem d_Store_stepPreparing_49 : decode b_Store_stepPreparing 49 = .ok (.iconst 1, 1) := by decide +kernel
theorem d_Store_stepPreparing_50 : decode b_Store_stepPreparing 50 = .ok (.iload_n 1, 1) := by decide +kernel
theorem d_Store_stepPreparing_51 : decode b_Store_stepPreparing 51 = .ok (.invokevirtual 260, 3) := by decide +kernel
theorem d_Store_stepPreparing_54 : decode b_Store_stepPreparing 54 = .ok (.ifCond .eq 13, 3) := by decide +kernel
theorem d_Store_stepPreparing_57 : decode b_Store_stepPreparing 57 = .ok (.aload 5, 2) := by decide +kernel
theorem d_Store_stepPreparing_59 : decode b_Store_stepPreparing 59 = .ok (.iconst 1, 1) := by decide +kernel
theorem d_Store_stepPreparing_60 : decode b_Store_stepPreparing 60 = .ok (.iload_n 1, 1) := by decide +kernel
theorem d_Store_stepPreparing_61 : decode b_Store_stepPreparing 61 = .ok (.invokevirtual 260, 3) := by decide +kernel
theorem d_Store_stepPreparing_64 : decode b_Store_stepPreparing 64 = .ok (.ifCond .ne 15, 3) := by decide +kernel
theorem d_Store_stepPreparing_67 : decode b_Store_stepPreparing 67 = .ok (.aload_n 0, 1) := by decide +kernel
theorem d_Store_stepPreparing_68 : decode b_Store_stepPreparing 68 = .ok (.getfield 17, 3) := by decide +kernel
theorem d_Store_stepPreparing_71 : decode b_Store_stepPreparing 71 = .ok (.iload_n 1, 1) := by decide +kernel
theorem d_Store_stepPreparing_72 : decode b_Store_stepPreparing 72 = .ok (.aaload, 1) := by decide +kernel
theorem d_Store_stepPreparing_73 : decode b_Store_stepPreparing 73 = .ok (.iconst 4, 1) := by decide +kernel
theorem d_Store_stepPreparing_74 : decode b_Store_stepPreparing 74 = .ok (.putfield 128, 3) := by decide +kernel
theorem d_Store_stepPreparing_77 : decode b_Store_stepPreparing 77 = .ok (.iconst 4, 1) := by decide +kernel
theorem d_Store_stepPreparing_78 : decode b_Store_stepPreparing 78 = .ok (.ireturn, 1) := by decide +kernel
theorem d_Store_stepPreparing_79 : decode b_Store_stepPreparing 79 = .ok (.aload 4, 2) := by decide +kernel
theorem d_Store_stepPreparing_81 : decode b_Store_stepPreparing 81 = .ok (.iconst 1, 1) := by decide +kernel
theorem d_Store_stepPreparing_82 : decode b_Store_stepPreparing 82 = .ok (.iload_n 1, 1) := by decide +kernel
theorem d_Store_stepPreparing_83 : decode b_Store_stepPreparing 83 = .ok (.invokevirtual 264, 3) := by decide +kernel
theorem d_Store_stepPreparing_86 : decode b_Store_stepPreparing 86 = .ok (.ifCond .eq 13, 3) := by decide +kernel
theorem d_Store_stepPreparing_89 : decode b_Store_stepPreparing 89 = .ok (.aload 5, 2) := by decide +kernel
theorem d_Store_stepPreparing_91 : decode b_Store_stepPreparing 91 = .ok (.iconst 1, 1) := by decide +kernel
theorem d_Store_stepPreparing_92 : decode b_Store_stepPreparing 92 = .ok (.iload_n 1, 1) := by decide +kernel
theorem d_Store_stepPreparing_93 : decode b_Store_stepPreparing 93 = .ok (.invokevirtual 264, 3) := by decide +kernel
theorem d_Store_stepPreparing_96 : decode b_Store_stepPreparing 96 = .ok (.ifCond .ne 5, 3) := by decide +kernel
theorem d_Store_stepPreparing_99 : decode b_Store_stepPreparing 99 = .ok (.iconst 1, 1) := by decide +kernel
theorem d_Store_stepPreparing_100 : decode b_Store_stepPreparing 100 = .ok (.ireturn, 1) := by decide +kernel
theorem d_Store_stepPreparing_101 : decode b_Store_stepPreparing 101 = .ok (.aload 4, 2) := by decide +kernel
theorem d_Store_stepPreparing_103 : decode b_Store_stepPreparing 103 = .ok (.iconst 1, 1) := by decide +kernel
theorem d_Store_stepPreparing_104 : decode b_Store_stepPreparing 104 = .ok (.iload_n 1, 1) := by decide +kernel
theorem d_Store_stepPreparing_105 : decode b_Store_stepPreparing 105 = .ok (.invokevirtual 267, 3) := by decide +kernel
theorem d_Store_stepPreparing_108 : decode b_Store_stepPreparing 108 = .ok (.aload 5, 2) := by decide +kernel
theorem d_Store_stepPreparing_110 : decode b_Store_stepPreparing 110 = .ok (.iconst 1, 1) := by decide +kernel
theorem d_Store_stepPreparing_111 : decode b_Store_stepPreparing 111 = .ok (.iload_n 1, 1) := by decide +kernel
theorem d_Store_stepPreparing_112 : decode b_Store_stepPreparing 112 = .ok (.invokevirtual 267, 3) := by decide +kernel
theorem d_Store_stepPreparing_115 : decode b_Store_stepPreparing 115 = .ok (.invokestatic 80, 3) := by decide +kernel
theorem d_Store_stepPreparing_118 : decode b_Store_stepPreparing 118 = .ok (.istore 6, 2) := by decide +kernel
theorem d_Store_stepPreparing_120 : decode b_Store_stepPreparing 120 = .ok (.aload_n 0, 1) := by decide +kernel
theorem d_Store_stepPreparing_121 : decode b_Store_stepPreparing 121 = .ok (.getfield 11, 3) := by decide +kernel
theorem d_Store_stepPreparing_124 : decode b_Store_stepPreparing 124 = .ok (.iload_n 2, 1) := by decide +kernel
theorem d_Store_stepPreparing_125 : decode b_Store_stepPreparing 125 = .ok (.aaload, 1) := by decide +kernel
theorem d_Store_stepPreparing_126 : decode b_Store_stepPreparing 126 = .ok (.iconst 2, 1) := by decide +kernel
theorem d_Store_stepPreparing_127 : decode b_Store_stepPreparing 127 = .ok (.iload_n 1, 1) := by decide +kernel
theorem d_Store_stepPreparing_128 : decode b_Store_stepPreparing 128 = .ok (.iconst (-1), 1) := by decide +kernel
theorem d_Store_stepPreparing_129 : decode b_Store_stepPreparing 129 = .ok (.iload 6, 2) := by decide +kernel
theorem d_Store_stepPreparing_131 : decode b_Store_stepPreparing 131 = .ok (.invokevirtual 72, 3) := by decide +kernel
theorem d_Store_stepPreparing_134 : decode b_Store_stepPreparing 134 = .ok (.istore 7, 2) := by decide +kernel
theorem d_Store_stepPreparing_136 : decode b_Store_stepPreparing 136 = .ok (.iload 7, 2) := by decide +kernel
theorem d_Store_stepPreparing_138 : decode b_Store_stepPreparing 138 = .ok (.ifCond .ge 6, 3) := by decide +kernel
theorem d_Store_stepPreparing_141 : decode b_Store_stepPreparing 141 = .ok (.iload 7, 2) := by decide +kernel
theorem d_Store_stepPreparing_143 : decode b_Store_stepPreparing 143 = .ok (.ireturn, 1) := by decide +kernel
theorem d_Store_stepPreparing_144 : decode b_Store_stepPreparing 144 = .ok (.aload_n 0, 1) := by decide +kernel
theorem d_Store_stepPreparing_145 : decode b_Store_stepPreparing 145 = .ok (.getfield 17, 3) := by decide +kernel
theorem d_Store_stepPreparing_148 : decode b_Store_stepPreparing 148 = .ok (.iload_n 1, 1) := by decide +kernel
theorem d_Store_stepPreparing_149 : decode b_Store_stepPreparing 149 = .ok (.aaload, 1) := by decide +kernel
theorem d_Store_stepPreparing_150 : decode b_Store_stepPreparing 150 = .ok (.iconst 2, 1) := by decide +kernel
theorem d_Store_stepPreparing_151 : decode b_Store_stepPreparing 151 = .ok (.putfield 128, 3) := by decide +kernel
theorem d_Store_stepPreparing_154 : decode b_Store_stepPreparing 154 = .ok (.iconst 2, 1) := by decide +kernel
theorem d_Store_stepPreparing_155 : decode b_Store_stepPreparing 155 = .ok (.ireturn, 1) := by decide +kernel
def B_Store_stepPreparing_22 (R : Nat → Nat → Nat) (I : St) : Option (Int32 × St) := some ((-3 : Int32), I)
set_option maxHeartbeats 4000000 in
set_option maxRecDepth 100000 in
theorem b_Store_stepPreparing_22 {p : Program} {l : Launch} {e : Env} {s : State} {m : MethodId} {args : Array Value} {below : List Frame} {meth : Method} {c : Code} {g : Sg} {R : Nat → Nat → Nat} {J : St} {v : Int32} (cx : Cx p s m args meth c g R R_Store b_Store_stepPreparing 8 (some .int)) : ∀ (I : St) (H : Heap) (locs : List Loc) (ls : Array Slot), B_Store_stepPreparing_22 R I = some (v, J) → wW g R I H → va_S (· ∈ g.L) s.heap H locs → lv_has ls 8 [] → W p l e { frames := 4, cells := 0, slots := 0, locals := 90 } s m args below meth c H locs 0 0 (MQ below (Qi g R v J) args s 0 0 (· ∈ g.L)) (F0 m 22 ls []) := by
  have ⟨hx, hb, hml, hr, hlk, hown, hall, hT, hK⟩ := cx
  intro I H locs ls h hP hS hl
  unfold B_Store_stepPreparing_22 at h
  refine lv_bipush (v := (-3)) hx hb d_Store_stepPreparing_22 (by decide) ?_
  obtain ⟨rfl, rfl⟩ := rt_el h
  exact gg_iret hx hb hr hlk hK hP hS d_Store_stepPreparing_24
def B_Store_stepPreparing_67 (R : Nat → Nat → Nat) (a0 : Nat) (x1 : Int32) (I : St) : Option (Int32 × St) := (chk x1 16 ((ap (up2 I (R (R a0 2) x1.toNatClampNeg) 3 (4 : Int32)) (fun I74 => some ((4 : Int32), I74)))))
set_option maxHeartbeats 4000000 in
set_option maxRecDepth 100000 in
theorem b_Store_stepPreparing_67 {p : Program} {l : Launch} {e : Env} {s : State} {m : MethodId} {args : Array Value} {below : List Frame} {meth : Method} {c : Code} {g : Sg} {R : Nat → Nat → Nat} {J : St} {v : Int32} (cx : Cx p s m args meth c g R R_Store b_Store_stepPreparing 8 (some .int)) : ∀ (a0 : Nat) (x1 : Int32) (I : St) (H : Heap) (locs : List Loc) (ls : Array Slot), okA g 4 0 a0 → B_Store_stepPreparing_67 R a0 x1 I = some (v, J) → wW g R I H → va_S (· ∈ g.L) s.heap H locs → lv_has ls 8 [(0, .ref a0), (1, .int x1)] → W p l e { frames := 4, cells := 0, slots := 0, locals := 90 } s m args below meth c H locs 0 0 (MQ below (Qi g R v J) args s 0 0 (· ∈ g.L)) (F0 m 67 ls []) := by
  have ⟨hx, hb, hml, hr, hlk, hown, hall, hT, hK⟩ := cx
  intro a0 x1 I H locs ls o0 h hP hS hl
  unfold B_Store_stepPreparing_67 at h
  refine lv_aload_n hx hb d_Store_stepPreparing_67 rfl (lv_at hl 0 rfl) ?_
  refine gg_get (C := R_Store) (T := F_Store) (N := 4) (ci := 4) hx hb hall i_Store hown hK hP o0.1 (wE_4 o0.2) rfl 2 (by decide) (hall _ m_202) (fun _ h9 => h9) rfl d_Store_stepPreparing_68 ?_
  have o_68 : okA g 9 16 (R a0 2) := ty_Store_2 hT o0
  refine lv_iload_n hx hb d_Store_stepPreparing_71 rfl (lv_at hl 1 rfl) ?_
  obtain ⟨hi72, h⟩ := chk_el h
  refine gg_tald hx hb hK hP o_68 hi72 d_Store_stepPreparing_72 ?_
  have o_72 : okA g 3 0 (R (R a0 2) x1.toNatClampNeg) := ty_9 hT o_68 _
  refine lv_iconst (v := 4) hx hb d_Store_stepPreparing_73 (by decide) ?_
  refine gg_put (C := R_Txn) (T := F_Txn) (N := 5) (ci := 3) (ty := .int) hx hb hall i_Txn t_Txn t_Txn_ok n_Txn hown hT.1 hK hP hS o_72.1 (wE_3 o_72.2) rfl 3 (by decide) (hall _ m_229) (fun _ h9 => h9) rfl (by decide +kernel) rfl rfl (Nat.le_of_ble_eq_true rfl) (ws_Txn_3 o_72.2) d_Store_stepPreparing_74 (fun I74 H locs e74 hP hS => ?_)
  replace h := ap_el e74 h
  refine lv_iconst (v := 4) hx hb d_Store_stepPreparing_77 (by decide) ?_
  obtain ⟨rfl, rfl⟩ := rt_el h
  exact gg_iret hx hb hr hlk hK hP hS d_Store_stepPreparing_78
def B_Store_stepPreparing_99 (R : Nat → Nat → Nat) (I : St) : Option (Int32 × St) := some ((1 : Int32), I)
set_option maxHeartbeats 4000000 in
set_option maxRecDepth 100000 in
theorem b_Store_stepPreparing_99 {p : Program} {l : Launch} {e : Env} {s : State} {m : MethodId} {args : Array Value} {below : List Frame} {meth : Method} {c : Code} {g : Sg} {R : Nat → Nat → Nat} {J : St} {v : Int32} (cx : Cx p s m args meth c g R R_Store b_Store_stepPreparing 8 (some .int)) : ∀ (I : St) (H : Heap) (locs : List Loc) (ls : Array Slot), B_Store_stepPreparing_99 R I = some (v, J) → wW g R I H → va_S (· ∈ g.L) s.heap H locs → lv_has ls 8 [] → W p l e { frames := 4, cells := 0, slots := 0, locals := 90 } s m args below meth c H locs 0 0 (MQ below (Qi g R v J) args s 0 0 (· ∈ g.L)) (F0 m 99 ls []) := by
  have ⟨hx, hb, hml, hr, hlk, hown, hall, hT, hK⟩ := cx
  intro I H locs ls h hP hS hl
  unfold B_Store_stepPreparing_99 at h
  refine lv_iconst (v := 1) hx hb d_Store_stepPreparing_99 (by decide) ?_
  obtain ⟨rfl, rfl⟩ := rt_el h
  exact gg_iret hx hb hr hlk hK hP hS d_Store_stepPreparing_100
def F_Store_stepPreparing (R : Nat → Nat → Nat) (a0 : Nat) (x1 : Int32) (I : St) : Option (Int32 × St) := (ob (F_Store_readyNode R a0 (0 : Int32) I) (fun v2 => (ob (F_Store_readyNode R a0 (1 : Int32) I) (fun v8 => (if v2 = (-1 : Int32) then B_Store_stepPreparing_22 R I else (if v8 = (-1 : Int32) then B_Store_stepPreparing_22 R I else (chk v2 6 ((chk v8 6 ((ob (F_Log_has R (R (R (R a0 1) v2.toNatClampNeg) 2) (1 : Int32) x1 I) (fun v51 => (if v51 = 0 then B_Store_stepPreparing_67 R a0 x1 I else (ob (F_Log_has R (R (R (R a0 1) v8.toNatClampNeg) 2) (1 : Int32) x1 I) (fun v61 => (if v61 = 0 then B_Store_stepPreparing_67 R a0 x1 I else (ob (F_Log_knows R (R (R (R a0 1) v2.toNatClampNeg) 2) (1 : Int32) x1 I) (fun v83 => (if v83 = 0 then B_Store_stepPreparing_99 R I else (ob (F_Log_knows R (R (R (R a0 1) v8.toNatClampNeg) 2) (1 : Int32) x1 I) (fun v93 => (if v93 = 0 then B_Store_stepPreparing_99 R I else (ob (F_Log_stampOf R (R (R (R a0 1) v2.toNatClampNeg) 2) (1 : Int32) x1 I) (fun v105 => (ob (F_Log_stampOf R (R (R (R a0 1) v8.toNatClampNeg) 2) (1 : Int32) x1 I) (fun v112 => (chk v2 6 ((ob2 (F_Node_put R (R (R a0 1) v2.toNatClampNeg) (2 : Int32) x1 (-1 : Int32) (imax v105 v112) I) (fun v131 I131 => (if 0 ≤ v131 then (chk x1 16 ((ap (up2 I131 (R (R a0 2) x1.toNatClampNeg) 3 (2 : Int32)) (fun I151 => some ((2 : Int32), I151))))) else some (v131, I131))))))))))))))))))))))))))))))))
set_option maxHeartbeats 4000000 in
set_option maxRecDepth 100000 in
theorem c_Store_stepPreparing (l : Launch) {g : Sg} {R : Nat → Nat → Nat} (hT : Ty g R) {a0 : Nat} (o0 : okA g 4 0 a0) {x1 : Int32} {I : St} {J : St} {v : Int32} (h : F_Store_stepPreparing R a0 x1 I = some (v, J)) : Cti l g R y_Store_stepPreparing w_Store_stepPreparing 4 90 [.ref a0, .int x1] I v J := by
  unfold Cti
  refine Met.ofW (cc := b_Store_stepPreparing) (maxL := 8) (ret := (some .int)) (by decide) rfl ?_
  intro p e s m args below meth c s₁ B hml hv
  obtain ⟨rfl, hP, hK⟩ := hv
  have hts := atoms_spec (ws := w_Store_stepPreparing) B.pre
  have hall : ∀ w ∈ w_all, w.before _ s = true := fun w hw => hts w (List.mem_cons_of_mem _ hw)
  have hown : s.vm.findClass R_Store = some m.cls := findClass_of_methodNamed B.named
  have hx := B.exec
  have hb := B.bytes
  have hr := B.returns
  have hlk := B.notSynchronized
  have cx : Cx p s m _ meth c g R R_Store b_Store_stepPreparing 8 (some .int) := ⟨hx, hb, hml, hr, hlk, hown, hall, hT, hK⟩
  have hl := lv_entry ([.ref a0, .int x1]) (n := 8) (Nat.le_of_ble_eq_true rfl)
  rw [lg_entry_eq]
  generalize (lg_sl ([.ref a0, .int x1]) ++ List.replicate (8 - (lg_sl ([.ref a0, .int x1])).length) Slot.unset).toArray = ls at hl ⊢
  have hl : lv_has ls 8 [(0, .ref a0), (1, .int x1)] := hl
  have hS : va_S (· ∈ g.L) s.heap s.heap [] := va_S.rf
  unfold F_Store_stepPreparing at h
  refine lv_aload_n hx hb d_Store_stepPreparing_0 rfl (lv_at hl 0 rfl) ?_
  refine lv_iconst (v := 0) hx hb d_Store_stepPreparing_1 (by decide) ?_
  obtain ⟨v2, e2, h⟩ := ob_el h
  refine gg_Vi (As := [.int (0 : Int32)]) (rest := []) (ci := 4) (C := R_Store) (T := F_Store) (N := 4) ⟨hx, hb, hml, hown, hall⟩ (c_Store_readyNode l hT o0 e2) (cwV 1 hall (gV m_172 m_173 m_174 m_6 m_169) rfl rfl rfl (by decide +kernel) ⟨Nat.le_of_ble_eq_true rfl, Nat.le_of_ble_eq_true rfl⟩) hK hP hS o0.1 (wE_4 o0.2) rfl rfl hl.1 rfl (Nat.le_of_ble_eq_true rfl) d_Store_stepPreparing_2 (fun H locs hP hS => ?_)
  refine lv_istore_n (lv' := [(2, .int v2), (0, .ref a0), (1, .int x1)]) hx hb d_Store_stepPreparing_5 rfl hl (Nat.le_of_ble_eq_true rfl) rfl (fun ls hl => ?_)
  refine lv_aload_n hx hb d_Store_stepPreparing_6 rfl (lv_at hl 1 rfl) ?_
  refine lv_iconst (v := 1) hx hb d_Store_stepPreparing_7 (by decide) ?_
  obtain ⟨v8, e8, h⟩ := ob_el h
  refine gg_Vi (As := [.int (1 : Int32)]) (rest := []) (ci := 4) (C := R_Store) (T := F_Store) (N := 4) ⟨hx, hb, hml, hown, hall⟩ (c_Store_readyNode l hT o0 e8) (cwV 1 hall (gV m_172 m_173 m_174 m_6 m_169) rfl rfl rfl (by decide +kernel) ⟨Nat.le_of_ble_eq_true rfl, Nat.le_of_ble_eq_true rfl⟩) hK hP hS o0.1 (wE_4 o0.2) rfl rfl hl.1 rfl (Nat.le_of_ble_eq_true rfl) d_Store_stepPreparing_8 (fun H locs hP hS => ?_)
  refine lv_istore_n (lv' := [(3, .int v8), (2, .int v2), (0, .ref a0), (1, .int x1)]) hx hb d_Store_stepPreparing_11 rfl hl (Nat.le_of_ble_eq_true rfl) rfl (fun ls hl => ?_)
  refine lv_iload_n hx hb d_Store_stepPreparing_12 rfl (lv_at hl 1 rfl) ?_
  refine lv_iconst (v := (-1)) hx hb d_Store_stepPreparing_13 (by decide) ?_
  refine lv_icmp_eq hx hb d_Store_stepPreparing_14 rfl (fun hc => ?_) (fun hc => ?_)
  · replace h := i_pos hc h
    exact b_Store_stepPreparing_22 cx _ _ _ _ h hP hS (lv_sub hl [] rfl)
  · replace h := i_neg hc h
    refine lv_iload_n hx hb d_Store_stepPreparing_17 rfl (lv_at hl 0 rfl) ?_
    refine lv_iconst (v := (-1)) hx hb d_Store_stepPreparing_18 (by decide) ?_
    refine lv_icmp_ne hx hb d_Store_stepPreparing_19 rfl (fun hc => ?_) (fun hc => ?_)
    · replace h := i_neg hc h
      refine lv_aload_n hx hb d_Store_stepPreparing_25 rfl (lv_at hl 2 rfl) ?_
      refine gg_get (C := R_Store) (T := F_Store) (N := 4) (ci := 4) hx hb hall i_Store hown hK hP o0.1 (wE_4 o0.2) rfl 1 (by decide) (hall _ m_8) (fun _ h9 => h9) rfl d_Store_stepPreparing_26 ?_
      have o_26 : okA g 8 6 (R a0 1) := ty_Store_1 hT o0
      refine lv_iload_n hx hb d_Store_stepPreparing_29 rfl (lv_at hl 1 rfl) ?_
      obtain ⟨hi30, h⟩ := chk_el h
      refine gg_nald hx hb hK hP o_26 hi30 d_Store_stepPreparing_30 ?_
      have o_30 : okA g 2 0 (R (R a0 1) v2.toNatClampNeg) := ty_8 hT o_26 _
      refine gg_get (C := R_Node) (T := F_Node) (N := 10) (ci := 2) hx hb hall i_Node hown hK hP o_30.1 (wE_2 o_30.2) rfl 2 (by decide) (hall _ m_134) (fun _ h9 => h9) rfl d_Store_stepPreparing_31 ?_
      have o_31 : okA g 1 0 (R (R (R a0 1) v2.toNatClampNeg) 2) := ty_Node_2 hT o_30
      refine lv_astore (lv' := [(4, .ref (R (R (R a0 1) v2.toNatClampNeg) 2)), (3, .int v8), (2, .int v2), (0, .ref a0), (1, .int x1)]) hx hb d_Store_stepPreparing_34 hl (Nat.le_of_ble_eq_true rfl) rfl (fun ls hl => ?_)
      refine lv_aload_n hx hb d_Store_stepPreparing_36 rfl (lv_at hl 3 rfl) ?_
      refine gg_get (C := R_Store) (T := F_Store) (N := 4) (ci := 4) hx hb hall i_Store hown hK hP o0.1 (wE_4 o0.2) rfl 1 (by decide) (hall _ m_8) (fun _ h9 => h9) rfl d_Store_stepPreparing_37 ?_
      have o_37 : okA g 8 6 (R a0 1) := ty_Store_1 hT o0
      refine lv_iload_n hx hb d_Store_stepPreparing_40 rfl (lv_at hl 1 rfl) ?_
      obtain ⟨hi41, h⟩ := chk_el h
      refine gg_nald hx hb hK hP o_37 hi41 d_Store_stepPreparing_41 ?_
      have o_41 : okA g 2 0 (R (R a0 1) v8.toNatClampNeg) := ty_8 hT o_37 _
      refine gg_get (C := R_Node) (T := F_Node) (N := 10) (ci := 2) hx hb hall i_Node hown hK hP o_41.1 (wE_2 o_41.2) rfl 2 (by decide) (hall _ m_134) (fun _ h9 => h9) rfl d_Store_stepPreparing_42 ?_
      have o_42 : okA g 1 0 (R (R (R a0 1) v8.toNatClampNeg) 2) := ty_Node_2 hT o_41
      refine lv_astore (lv' := [(5, .ref (R (R (R a0 1) v8.toNatClampNeg) 2)), (4, .ref (R (R (R a0 1) v2.toNatClampNeg) 2)), (3, .int v8), (2, .int v2), (0, .ref a0), (1, .int x1)]) hx hb d_Store_stepPreparing_45 hl (Nat.le_of_ble_eq_true rfl) rfl (fun ls hl => ?_)
      refine lv_aload hx hb d_Store_stepPreparing_47 (lv_at hl 1 rfl) ?_
      refine lv_iconst (v := 1) hx hb d_Store_stepPreparing_49 (by decide) ?_
      refine lv_iload_n hx hb d_Store_stepPreparing_50 rfl (lv_at hl 5 rfl) ?_
      obtain ⟨v51, e51, h⟩ := ob_el h
      refine gg_Vi (As := [.int (1 : Int32), .int x1]) (rest := []) (ci := 1) (C := R_Log) (T := F_Log) (N := 7) ⟨hx, hb, hml, hown, hall⟩ (c_Log_has l hT o_31 e51) (cwV 2 hall (gV m_295 m_196 m_197 m_38 m_189) rfl rfl rfl (by decide +kernel) ⟨Nat.le_of_ble_eq_true rfl, Nat.le_of_ble_eq_true rfl⟩) hK hP hS o_31.1 (wE_1 o_31.2) rfl rfl hl.1 rfl (Nat.le_of_ble_eq_true rfl) d_Store_stepPreparing_51 (fun H locs hP hS => ?_)
      refine lv_if_eq hx hb d_Store_stepPreparing_54 rfl (fun hc => ?_) (fun hc => ?_)
      · replace h := i_pos hc h
        exact b_Store_stepPreparing_67 cx _ _ _ _ _ _ o0 h hP hS (lv_sub hl [4, 5] rfl)
      · replace h := i_neg hc h
        refine lv_aload hx hb d_Store_stepPreparing_57 (lv_at hl 0 rfl) ?_
        refine lv_iconst (v := 1) hx hb d_Store_stepPreparing_59 (by decide) ?_
        refine lv_iload_n hx hb d_Store_stepPreparing_60 rfl (lv_at hl 5 rfl) ?_
        obtain ⟨v61, e61, h⟩ := ob_el h
        refine gg_Vi (As := [.int (1 : Int32), .int x1]) (rest := []) (ci := 1) (C := R_Log) (T := F_Log) (N := 7) ⟨hx, hb, hml, hown, hall⟩ (c_Log_has l hT o_42 e61) (cwV 2 hall (gV m_295 m_196 m_197 m_38 m_189) rfl rfl rfl (by decide +kernel) ⟨Nat.le_of_ble_eq_true rfl, Nat.le_of_ble_eq_true rfl⟩) hK hP hS o_42.1 (wE_1 o_42.2) rfl rfl hl.1 rfl (Nat.le_of_ble_eq_true rfl) d_Store_stepPreparing_61 (fun H locs hP hS => ?_)
        refine lv_if_ne hx hb d_Store_stepPreparing_64 rfl (fun hc => ?_) (fun hc => ?_)
        · replace h := i_neg hc h
          refine lv_aload hx hb d_Store_stepPreparing_79 (lv_at hl 1 rfl) ?_
          refine lv_iconst (v := 1) hx hb d_Store_stepPreparing_81 (by decide) ?_
          refine lv_iload_n hx hb d_Store_stepPreparing_82 rfl (lv_at hl 5 rfl) ?_
          obtain ⟨v83, e83, h⟩ := ob_el h
          refine gg_Vi (As := [.int (1 : Int32), .int x1]) (rest := []) (ci := 1) (C := R_Log) (T := F_Log) (N := 7) ⟨hx, hb, hml, hown, hall⟩ (c_Log_knows l hT o_31 e83) (cwV 2 hall (gV m_296 m_192 m_193 m_38 m_190) rfl rfl rfl (by decide +kernel) ⟨Nat.le_of_ble_eq_true rfl, Nat.le_of_ble_eq_true rfl⟩) hK hP hS o_31.1 (wE_1 o_31.2) rfl rfl hl.1 rfl (Nat.le_of_ble_eq_true rfl) d_Store_stepPreparing_83 (fun H locs hP hS => ?_)
          refine lv_if_eq hx hb d_Store_stepPreparing_86 rfl (fun hc => ?_) (fun hc => ?_)
          · replace h := i_pos hc h
            exact b_Store_stepPreparing_99 cx _ _ _ _ h hP hS (lv_sub hl [] rfl)
          · replace h := i_neg hc h
            refine lv_aload hx hb d_Store_stepPreparing_89 (lv_at hl 0 rfl) ?_
            refine lv_iconst (v := 1) hx hb d_Store_stepPreparing_91 (by decide) ?_
            refine lv_iload_n hx hb d_Store_stepPreparing_92 rfl (lv_at hl 5 rfl) ?_
            obtain ⟨v93, e93, h⟩ := ob_el h
            refine gg_Vi (As := [.int (1 : Int32), .int x1]) (rest := []) (ci := 1) (C := R_Log) (T := F_Log) (N := 7) ⟨hx, hb, hml, hown, hall⟩ (c_Log_knows l hT o_42 e93) (cwV 2 hall (gV m_296 m_192 m_193 m_38 m_190) rfl rfl rfl (by decide +kernel) ⟨Nat.le_of_ble_eq_true rfl, Nat.le_of_ble_eq_true rfl⟩) hK hP hS o_42.1 (wE_1 o_42.2) rfl rfl hl.1 rfl (Nat.le_of_ble_eq_true rfl) d_Store_stepPreparing_93 (fun H locs hP hS => ?_)
            refine lv_if_ne hx hb d_Store_stepPreparing_96 rfl (fun hc => ?_) (fun hc => ?_)
            · replace h := i_neg hc h
              refine lv_aload hx hb d_Store_stepPreparing_101 (lv_at hl 1 rfl) ?_
              refine lv_iconst (v := 1) hx hb d_Store_stepPreparing_103 (by decide) ?_
              refine lv_iload_n hx hb d_Store_stepPreparing_104 rfl (lv_at hl 5 rfl) ?_
              obtain ⟨v105, e105, h⟩ := ob_el h
              refine gg_Vi (As := [.int (1 : Int32), .int x1]) (rest := []) (ci := 1) (C := R_Log) (T := F_Log) (N := 7) ⟨hx, hb, hml, hown, hall⟩ (c_Log_stampOf l hT o_31 e105) (cwV 2 hall (gV m_297 m_298 m_299 m_38 m_294) rfl rfl rfl (by decide +kernel) ⟨Nat.le_of_ble_eq_true rfl, Nat.le_of_ble_eq_true rfl⟩) hK hP hS o_31.1 (wE_1 o_31.2) rfl rfl hl.1 rfl (Nat.le_of_ble_eq_true rfl) d_Store_stepPreparing_105 (fun H locs hP hS => ?_)
              refine lv_aload hx hb d_Store_stepPreparing_108 (lv_at hl 0 rfl) ?_
              refine lv_iconst (v := 1) hx hb d_Store_stepPreparing_110 (by decide) ?_
              refine lv_iload_n hx hb d_Store_stepPreparing_111 rfl (lv_at hl 5 rfl) ?_
              obtain ⟨v112, e112, h⟩ := ob_el h
              refine gg_Vi (As := [.int (1 : Int32), .int x1]) (rest := [.int v105]) (ci := 1) (C := R_Log) (T := F_Log) (N := 7) ⟨hx, hb, hml, hown, hall⟩ (c_Log_stampOf l hT o_42 e112) (cwV 2 hall (gV m_297 m_298 m_299 m_38 m_294) rfl rfl rfl (by decide +kernel) ⟨Nat.le_of_ble_eq_true rfl, Nat.le_of_ble_eq_true rfl⟩) hK hP hS o_42.1 (wE_1 o_42.2) rfl rfl hl.1 rfl (Nat.le_of_ble_eq_true rfl) d_Store_stepPreparing_112 (fun H locs hP hS => ?_)
              refine gg_max hx hb hml hl.1 hown (hall _ m_122) (hall _ m_58) (hall _ m_18) (hall _ m_59) (Nat.le_of_ble_eq_true rfl) (Nat.le_of_ble_eq_true rfl) d_Store_stepPreparing_115 ?_
              refine lv_istore (lv' := [(6, .int (imax v105 v112)), (5, .ref (R (R (R a0 1) v8.toNatClampNeg) 2)), (4, .ref (R (R (R a0 1) v2.toNatClampNeg) 2)), (3, .int v8), (2, .int v2), (0, .ref a0), (1, .int x1)]) hx hb d_Store_stepPreparing_118 hl (Nat.le_of_ble_eq_true rfl) rfl (fun ls hl => ?_)
              refine lv_aload_n hx hb d_Store_stepPreparing_120 rfl (lv_at hl 5 rfl) ?_
              refine gg_get (C := R_Store) (T := F_Store) (N := 4) (ci := 4) hx hb hall i_Store hown hK hP o0.1 (wE_4 o0.2) rfl 1 (by decide) (hall _ m_8) (fun _ h9 => h9) rfl d_Store_stepPreparing_121 ?_
              have o_121 : okA g 8 6 (R a0 1) := ty_Store_1 hT o0
              refine lv_iload_n hx hb d_Store_stepPreparing_124 rfl (lv_at hl 4 rfl) ?_
              obtain ⟨hi125, h⟩ := chk_el h
              refine gg_nald hx hb hK hP o_121 hi125 d_Store_stepPreparing_125 ?_
              have o_125 : okA g 2 0 (R (R a0 1) v2.toNatClampNeg) := ty_8 hT o_121 _
              refine lv_iconst (v := 2) hx hb d_Store_stepPreparing_126 (by decide) ?_
              refine lv_iload_n hx hb d_Store_stepPreparing_127 rfl (lv_at hl 6 rfl) ?_
              refine lv_iconst (v := (-1)) hx hb d_Store_stepPreparing_128 (by decide) ?_
              refine lv_iload hx hb d_Store_stepPreparing_129 (lv_at hl 0 rfl) ?_
              obtain ⟨v131, I131, e131, h⟩ := ob2_el h
              refine gg_Vi (As := [.int (2 : Int32), .int x1, .int (-1 : Int32), .int (imax v105 v112)]) (rest := []) (ci := 2) (C := R_Node) (T := F_Node) (N := 10) ⟨hx, hb, hml, hown, hall⟩ (c_Node_put l hT o_125 e131) (cwV 4 hall (gV m_110 m_111 m_112 m_48 m_100) rfl rfl rfl (by decide +kernel) ⟨Nat.le_of_ble_eq_true rfl, Nat.le_of_ble_eq_true rfl⟩) hK hP hS o_125.1 (wE_2 o_125.2) rfl rfl hl.1 rfl (Nat.le_of_ble_eq_true rfl) d_Store_stepPreparing_131 (fun H locs hP hS => ?_)
              refine lv_istore (lv' := [(7, .int v131), (6, .int (imax v105 v112)), (5, .ref (R (R (R a0 1) v8.toNatClampNeg) 2)), (4, .ref (R (R (R a0 1) v2.toNatClampNeg) 2)), (3, .int v8), (2, .int v2), (0, .ref a0), (1, .int x1)]) hx hb d_Store_stepPreparing_134 hl (Nat.le_of_ble_eq_true rfl) rfl (fun ls hl => ?_)
              refine lv_iload hx hb d_Store_stepPreparing_136 (lv_at hl 0 rfl) ?_
              refine lv_if_ge hx hb d_Store_stepPreparing_138 rfl (fun hc => ?_) (fun hc => ?_)
              · replace h := i_pos hc h
                refine lv_aload_n hx hb d_Store_stepPreparing_144 rfl (lv_at hl 6 rfl) ?_
                refine gg_get (C := R_Store) (T := F_Store) (N := 4) (ci := 4) hx hb hall i_Store hown hK hP o0.1 (wE_4 o0.2) rfl 2 (by decide) (hall _ m_202) (fun _ h9 => h9) rfl d_Store_stepPreparing_145 ?_
                have o_145 : okA g 9 16 (R a0 2) := ty_Store_2 hT o0
                refine lv_iload_n hx hb d_Store_stepPreparing_148 rfl (lv_at hl 7 rfl) ?_
                obtain ⟨hi149, h⟩ := chk_el h
                refine gg_tald hx hb hK hP o_145 hi149 d_Store_stepPreparing_149 ?_
                have o_149 : okA g 3 0 (R (R a0 2) x1.toNatClampNeg) := ty_9 hT o_145 _
                refine lv_iconst (v := 2) hx hb d_Store_stepPreparing_150 (by decide) ?_
                refine gg_put (C := R_Txn) (T := F_Txn) (N := 5) (ci := 3) (ty := .int) hx hb hall i_Txn t_Txn t_Txn_ok n_Txn hown hT.1 hK hP hS o_149.1 (wE_3 o_149.2) rfl 3 (by decide) (hall _ m_229) (fun _ h9 => h9) rfl (by decide +kernel) rfl rfl (Nat.le_of_ble_eq_true rfl) (ws_Txn_3 o_149.2) d_Store_stepPreparing_151 (fun I151 H locs e151 hP hS => ?_)
                replace h := ap_el e151 h
                refine lv_iconst (v := 2) hx hb d_Store_stepPreparing_154 (by decide) ?_
                obtain ⟨rfl, rfl⟩ := rt_el h
                exact gg_iret hx hb hr hlk hK hP hS d_Store_stepPreparing_155
              · replace h := i_neg hc h
                refine lv_iload hx hb d_Store_stepPreparing_141 (lv_at hl 0 rfl) ?_
                obtain ⟨rfl, rfl⟩ := rt_el h
                exact gg_iret hx hb hr hlk hK hP hS d_Store_stepPreparing_143
            · replace h := i_pos hc h
              exact b_Store_stepPreparing_99 cx _ _ _ _ h hP hS (lv_sub hl [] rfl)
        · replace h := i_pos hc h
          exact b_Store_stepPreparing_67 cx _ _ _ _ _ _ o0 h hP hS (lv_sub hl [4, 5] rfl)
    · replace h := i_pos hc h
      exact b_Store_stepPreparing_22 cx _ _ _ _ h hP hS (lv_sub hl [] rfl)
end
