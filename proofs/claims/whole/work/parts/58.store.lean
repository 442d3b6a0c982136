theorem m_685 : (Jvm.Cond.code ({ cls := "StampedStore", name := "<init>", desc := "(I)V" } : Jvm.MethodName) prog_1_method_1_code (3 : Nat) (Option.none : Option Jvm.ClassFile.FieldType)) ∈ w_all := gB (List.mem_append_right _ (List.mem_append_left _ (List.mem_of_getElem? (l := tables_1_1) (i := 13) rfl))) rfl
theorem m_686 : (Jvm.Cond.classLink "StampedStore" (15 : Nat) "StampedStore$Transaction") ∈ w_all := gB (List.mem_append_right _ (List.mem_append_left _ (List.mem_of_getElem? (l := tables_1_1) (i := 19) rfl))) rfl
theorem m_687 : (Jvm.Cond.classLink "StampedStore" (9 : Nat) "StampedStore$Node") ∈ w_all := gB (List.mem_append_right _ (List.mem_append_left _ (List.mem_of_getElem? (l := tables_1_1) (i := 17) rfl))) rfl
theorem m_688 : (Jvm.Cond.instantiable "StampedStore$Transaction" (5 : Nat)) ∈ w_all := gB (List.mem_append_right _ (List.mem_append_left _ (List.mem_of_getElem? (l := tables_1_1) (i := 115) rfl))) rfl
theorem m_689 : (Jvm.Cond.instantiable "StampedStore$Node" (10 : Nat)) ∈ w_all := gB (List.mem_append_right _ (List.mem_append_left _ (List.mem_of_getElem? (l := tables_1_1) (i := 37) rfl))) rfl
theorem m_690 : (Jvm.Cond.methodLink "StampedStore" (33 : Nat) ({ cls := "StampedStore$Transaction", name := "<init>", desc := "()V" } : Jvm.MethodName)) ∈ w_all := gB (List.mem_append_right _ (List.mem_append_left _ (List.mem_of_getElem? (l := tables_1_1) (i := 116) rfl))) rfl
theorem m_691 : (Jvm.Cond.methodLink "StampedStore" (30 : Nat) ({ cls := "StampedStore$Node", name := "<init>", desc := "(ILStampedStore$Clock;)V" } : Jvm.MethodName)) ∈ w_all := gB (List.mem_append_right _ (List.mem_append_left _ (List.mem_of_getElem? (l := tables_1_1) (i := 38) rfl))) rfl
theorem m_692 : (Jvm.Cond.instanceMethod ({ cls := "StampedStore$Transaction", name := "<init>", desc := "()V" } : Jvm.MethodName)) ∈ w_all := gB (List.mem_append_right _ (List.mem_append_left _ (List.mem_of_getElem? (l := tables_1_1) (i := 117) rfl))) rfl
theorem m_693 : (Jvm.Cond.instanceMethod ({ cls := "StampedStore$Node", name := "<init>", desc := "(ILStampedStore$Clock;)V" } : Jvm.MethodName)) ∈ w_all := gB (List.mem_append_right _ (List.mem_append_left _ (List.mem_of_getElem? (l := tables_1_1) (i := 39) rfl))) rfl
theorem m_694 : (Jvm.Cond.methodLink "StampedStore" (3 : Nat) ({ cls := "java/lang/Object", name := "<init>", desc := "()V" } : Jvm.MethodName)) ∈ w_all := gB (List.mem_append_right _ (List.mem_append_left _ (List.mem_of_getElem? (l := tables_1_1) (i := 14) rfl))) rfl
theorem m_695 : (Jvm.Cond.classLink "StampedStore" (21 : Nat) "StampedStore$Clock") ∈ w_all := gB (List.mem_append_right _ (List.mem_append_left _ (List.mem_of_getElem? (l := tables_1_1) (i := 21) rfl))) rfl
theorem m_696 : (Jvm.Cond.instantiable "StampedStore$Clock" (2 : Nat)) ∈ w_all := gB (List.mem_append_right _ (List.mem_append_left _ (List.mem_of_getElem? (l := tables_1_1) (i := 22) rfl))) rfl
theorem m_697 : (Jvm.Cond.initialized "StampedStore$Clock") ∈ w_all := gB (List.mem_append_right _ (List.mem_append_left _ (List.mem_of_getElem? (l := tables_1_1) (i := 2) rfl))) rfl
theorem m_698 : (Jvm.Cond.methodLink "StampedStore" (23 : Nat) ({ cls := "StampedStore$Clock", name := "<init>", desc := "(I)V" } : Jvm.MethodName)) ∈ w_all := gB (List.mem_append_right _ (List.mem_append_left _ (List.mem_of_getElem? (l := tables_1_1) (i := 23) rfl))) rfl
theorem m_699 : (Jvm.Cond.instanceMethod ({ cls := "StampedStore$Clock", name := "<init>", desc := "(I)V" } : Jvm.MethodName)) ∈ w_all := gB (List.mem_append_right _ (List.mem_append_left _ (List.mem_of_getElem? (l := tables_1_1) (i := 24) rfl))) rfl
abbrev b_Store_init : ByteArray := prog_1_method_1_code
def y_Store_init : MethodName := ⟨"StampedStore", "<init>", "(I)V"⟩
def w_Store_init : List Cond := .code y_Store_init b_Store_init 3 none :: w_all
theorem d_Store_init_0 : decode b_Store_init 0 = .ok (.aload_n 0, 1) := by decide +kernel
theorem d_Store_init_1 : decode b_Store_init 1 = .ok (.invokespecial 3, 3) := by decide +kernel
theorem d_Store_init_4 : decode b_Store_init 4 = .ok (.aload_n 0, 1) := by decide +kernel
theorem d_Store_init_5 : decode b_Store_init 5 = .ok (.bipush 6, 2) := by decide +kernel
theorem d_Store_init_7 : decode b_Store_init 7 = .ok (.anewarray 9, 3) := by decide +kernel
theorem d_Store_init_10 : decode b_Store_init 10 = .ok (.putfield 11, 3) := by decide +kernel
theorem d_Store_init_13 : decode b_Store_init 13 = .ok (.aload_n 0, 1) := by decide +kernel
theorem d_Store_init_14 : decode b_Store_init 14 = .ok (.bipush 16, 2) := by decide +kernel
theorem d_Store_init_16 : decode b_Store_init 16 = .ok (.anewarray 15, 3) := by decide +kernel
theorem d_Store_init_19 : decode b_Store_init 19 = .ok (.putfield 17, 3) := by decide +kernel
theorem d_Store_init_22 : decode b_Store_init 22 = .ok (.aload_n 0, 1) := by decide +kernel
theorem d_Store_init_23 : decode b_Store_init 23 = .ok (.new 21, 3) := by decide +kernel
theorem d_Store_init_26 : decode b_Store_init 26 = .ok (.dup, 1) := by decide +kernel
theorem d_Store_init_27 : decode b_Store_init 27 = .ok (.iload_n 1, 1) := by decide +kernel
theorem d_Store_init_28 : decode b_Store_init 28 = .ok (.ifCond .lt 13, 3) := by decide +kernel
theorem d_Store_init_31 : decode b_Store_init 31 = .ok (.iload_n 1, 1) := by decide +kernel
theorem d_Store_init_32 : decode b_Store_init 32 = .ok (.bipush 10, 2) := by decide +kernel
theorem d_Store_init_34 : decode b_Store_init 34 = .ok (.if_icmp .gt 7, 3) := by decide +kernel
theorem d_Store_init_37 : decode b_Store_init 37 = .ok (.iload_n 1, 1) := by decide +kernel
theorem d_Store_init_38 : decode b_Store_init 38 = .ok (.goto 4, 3) := by decide +kernel
theorem d_Store_init_41 : decode b_Store_init 41 = .ok (.iconst 5, 1) := by decide +kernel
theorem d_Store_init_42 : decode b_Store_init 42 = .ok (.invokespecial 23, 3) := by decide +kernel
theorem d_Store_init_45 : decode b_Store_init 45 = .ok (.putfield 26, 3) := by decide +kernel
theorem d_Store_init_48 : decode b_Store_init 48 = .ok (.iconst 0, 1) := by decide +kernel
theorem d_Store_init_49 : decode b_Store_init 49 = .ok (.istore_n 2, 1) := by decide +kernel
theorem d_Store_init_50 : decode b_Store_init 50 = .ok (.iload_n 2, 1) := by decide +kernel
theorem d_Store_init_51 : decode b_Store_init 51 = .ok (.bipush 6, 2) := by decide +kernel
theorem d_Store_init_53 : decode b_Store_init 53 = .ok (.if_icmp .ge 27, 3) := by decide +kernel
theorem d_Store_init_56 : decode b_Store_init 56 = .ok (.aload_n 0, 1) := by decide +kernel
theorem d_Store_init_57 : decode b_Store_init 57 = .ok (.getfield 11, 3) := by decide +kernel
theorem d_Store_init_60 : decode b_Store_init 60 = .ok (.iload_n 2, 1) := by decide +kernel
theorem d_Store_init_61 : decode b_Store_init 61 = .ok (.new 9, 3) := by decide +kernel
theorem d_Store_init_64 : decode b_Store_init 64 = .ok (.dup, 1) := by decide +kernel
theorem d_Store_init_65 : decode b_Store_init 65 = .ok (.iload_n 2, 1) := by decide +kernel
theorem d_Store_init_66 : decode b_Store_init 66 = .ok (.aload_n 0, 1) := by decide +kernel
theorem d_Store_init_67 : decode b_Store_init 67 = .ok (.getfield 26, 3) := by decide +kernel
theorem d_Store_init_70 : decode b_Store_init 70 = .ok (.invokespecial 30, 3) := by decide +kernel
theorem d_Store_init_73 : decode b_Store_init 73 = .ok (.aastore, 1) := by decide +kernel
theorem d_Store_init_74 : decode b_Store_init 74 = .ok (.iinc 2 1, 3) := by decide +kernel
theorem d_Store_init_77 : decode b_Store_init 77 = .ok (.goto (-27), 3) := by decide +kernel
theorem d_Store_init_80 : decode b_Store_init 80 = .ok (.iconst 0, 1) := by decide +kernel
theorem d_Store_init_81 : decode b_Store_init 81 = .ok (.istore_n 2, 1) := by decide +kernel
theorem d_Store_init_82 : decode b_Store_init 82 = .ok (.iload_n 2, 1) := by decide +kernel
theorem d_Store_init_83 : decode b_Store_init 83 = .ok (.bipush 16, 2) := by decide +kernel
theorem d_Store_init_85 : decode b_Store_init 85 = .ok (.if_icmp .ge 22, 3) := by decide +kernel
theorem d_Store_init_88 : decode b_Store_init 88 = .ok (.aload_n 0, 1) := by decide +kernel
theorem d_Store_init_89 : decode b_Store_init 89 = .ok (.getfield 17, 3) := by decide +kernel
theorem d_Store_init_92 : decode b_Store_init 92 = .ok (.iload_n 2, 1) := by decide +kernel
theorem d_Store_init_93 : decode b_Store_init 93 = .ok (.new 15, 3) := by decide +kernel
theorem d_Store_init_96 : decode b_Store_init 96 = .ok (.dup, 1) := by decide +kernel
theorem d_Store_init_97 : decode b_Store_init 97 = .ok (.invokespecial 33, 3) := by decide +kernel
theorem d_Store_init_100 : decode b_Store_init 100 = .ok (.aastore, 1) := by decide +kernel
theorem d_Store_init_101 : decode b_Store_init 101 = .ok (.iinc 2 1, 3) := by decide +kernel
theorem d_Store_init_104 : decode b_Store_init 104 = .ok (.goto (-22), 3) := by decide +kernel
theorem d_Store_init_107 : decode b_Store_init 107 = .ok (.return_, 1) := by decide +kernel
section
def epsOf (x : Int32) : Int32 := if x < 0 then 5 else if 10 < x then 5 else x
/-- what StampedStore's constructor leaves -/
def postS (g : Sg) (ev : Int32) (a0 : Nat) (u : List Nat × (Nat → va_E)) : Prop := u.1.length = 110 ∧ u.1.Nodup ∧ u.1.getD 0 0 = a0 ∧ Iv g ev u.1 u.2 ∧ u.2 (u.1.getD 1 0) = .inl (g.cN, 6, .inr (.inr (.inr (.inr (fun j => if j < 6 then some (u.1.getD (4 + 7 * j) 0) else none))))) ∧ u.2 (u.1.getD 2 0) = .inl (g.cT, 16, .inr (.inr (.inr (.inr (fun j => if j < 16 then some (u.1.getD (46 + 4 * j) 0) else none)))))
variable {p : Program} {l : Launch} {e : Env} {s : State} {m : MethodId} {args : Array Value} {below : List Frame} {meth : Method} {c : Code} {g : Sg} {A : Nat → Prop} {a0 : Nat} {ev : Int32}
theorem Iv0 {L : List Nat} {f : Nat → va_E} (h : Iv g ev L f) (hl : 3 < L.length) : f (L.getD 0 0) = .inr (4, [.ref (L.getD 3 0), .ref (L.getD 1 0), .ref (L.getD 2 0), .int 0]) := (h 0 (by omega) (by omega) (by omega)).trans rfl
set_option maxHeartbeats 8000000 in
set_option maxRecDepth 100000 in
theorem store_l2 (hx : p.tables.exec = Jvm.exec) (hb : c.code = b_Store_init) (hml : c.maxLocals = 3) (hr : meth.sig.returnType = none) (hlk : meth.locks = false) (hown : s.vm.findClass R_Store = some m.cls) (hall : ∀ w ∈ w_all, w.before args s = true) (hK : wK2 g s) (hA : ∀ q, s.heap.size ≤ q → A q) :
    ∀ (k i : Nat) (L : List Nat) (f : Nat → va_E) (H : Heap) (locs : List Loc) (ls : Array Slot), i + k = 16 → L.length = 46 + 4 * i → L.Nodup → (∀ z, z ∈ L → A z) → va_P g.1 classes (va_pl L f) H → va_S A s.heap H locs → L.getD 0 0 = a0 → Iv g ev L f → f (L.getD 1 0) = .inl (g.cN, 6, .inr (.inr (.inr (.inr (fun j => if j < 6 then some (L.getD (4 + 7 * j) 0) else none))))) → f (L.getD 2 0) = .inl (g.cT, 16, .inr (.inr (.inr (.inr (fun j => if j < i then some (L.getD (46 + 4 * j) 0) else none))))) → lv_has ls 3 [(0, .ref a0), (2, .int (nI i))] →
      W p l e { frames := 3, cells := 109, slots := 2294, locals := 54 } s m args below meth c H locs (45 + 4 * i) (1926 + 23 * i) (MQ below (Qn g A (postS g ev a0)) args s 109 2294 A) (F0 m 82 ls []) := by
  intro k
  induction k with
  | zero =>
    intro i L f H locs ls hik hlen hN hLA hP hS h0 hI h1 h2 hl
    have hi : i = 16 := by omega
    subst hi
    refine lv_iload_n hx hb d_Store_init_82 rfl (lv_at hl 1 rfl) ?_
    refine lv_bipush (v := 16) hx hb d_Store_init_83 (by decide) ?_
    refine lv_icmp_ge hx hb d_Store_init_85 rfl (fun _ => ?_) (fun hc => absurd (by decide : (16 : Int32) ≤ nI 16) hc)
    exact pp_vret hx hb hr hlk hK hP hS hLA ⟨hlen, hN, h0, hI, h1, h2⟩ d_Store_init_107
  | succ k ih =>
    intro i L f H locs ls hik hlen hN hLA hP hS h0 hI h1 h2 hl
    have hi : i < 16 := by omega
    refine lv_iload_n hx hb d_Store_init_82 rfl (lv_at hl 1 rfl) ?_
    refine lv_bipush (v := 16) hx hb d_Store_init_83 (by decide) ?_
    refine lv_icmp_ge hx hb d_Store_init_85 rfl (fun hc => absurd hc (nI_ge hi (by decide))) (fun _ => ?_)
    refine lv_aload_n hx hb d_Store_init_88 rfl (lv_at hl 0 rfl) ?_
    have hf0 := Iv0 hI (by omega)
    rw [h0] at hf0
    have hm0 : a0 ∈ L := by rw [← h0]; exact gD_m (by omega)
    have hm2 : L.getD 2 0 ∈ L := gD_m (by omega)
    refine pp_get (C := R_Store) (T := F_Store) (N := 4) (ci := 4) hx hb hall i_Store hown hK hP hm0 hf0 rfl 2 (by decide) (hall _ m_202) (fun _ h9 => h9) rfl d_Store_init_89 ?_
    refine lv_iload_n hx hb d_Store_init_92 rfl (lv_at hl 1 rfl) ?_
    refine pp_new (ci := 3) (fs := [.null, .null, .null, .int 0, .int 0]) (C := R_Txn) (T := F_Txn) (N := 5) hx hb hall i_Txn t_Txn t_Txn_ok hown (hall _ m_686) (hall _ m_688) (hall _ m_180) hN hLA hK hP hS hA rfl (fun j hj => by rcases (show j = 0 ∨ j = 1 ∨ j = 2 ∨ j = 3 ∨ j = 4 by omega) with rfl | rfl | rfl | rfl | rfl <;> rfl) (by show _ ≤ 109; omega) (by show _ ≤ 2294; omega) d_Store_init_93 (fun q f1 H hq hAq off1 hfq hP hS => ?_)
    have hN1 := pNd hN hq
    have hLA1 := pLA hLA hAq
    refine lv_dup hx hb d_Store_init_96 rfl ?_
    refine pp_init (As := []) (rest := [.ref q, .int (nI i), .ref (L.getD 2 0)]) ⟨hx, hb, hml, hown, hall⟩ (c_Txn_init l hN1 (pIs L q) hfq) (cwI 0 hall (gC m_672) rfl rfl rfl (hall _ m_180) (hall _ m_690) (hall _ m_692) rfl (by decide +kernel) ⟨Nat.le_of_ble_eq_true rfl, Nat.le_of_ble_eq_true rfl⟩) hK hP hS hA hLA1 rfl hl.1 rfl (Nat.le_of_ble_eq_true rfl) d_Store_init_97 ⟨by show _ ≤ 109; omega, by show _ ≤ 2294; omega⟩ (fun L2 f2 H locs hpost hLA2 hP hS => ?_)
    dsimp only at hpost
    obtain ⟨q0, q1, q2, hL2, hN2, off2, hf2q, hf20, hf21, hf22⟩ := hpost
    have hL2 : L2 = (L ++ [q]) ++ [q0, q1, q2] := hL2
    have hl1 : (L ++ [q]).length = 47 + 4 * i := by simp [hlen]; omega
    have hlen2 : L2.length = 46 + 4 * (i + 1) := by rw [hL2]; simp [hlen]; omega
    have old : ∀ z, z < L.length → L2.getD z 0 = L.getD z 0 := fun z hz => by rw [hL2, gD_l (by omega), gD_l hz]
    have gq : L2.getD (46 + 4 * i) 0 = q := by rw [hL2, gD_l (by omega), gD_r (j := 0) (by omega)]; rfl
    have gq0 : L2.getD (47 + 4 * i) 0 = q0 := by rw [hL2, gD_r (j := 0) (by omega)]; rfl
    have gq1 : L2.getD (48 + 4 * i) 0 = q1 := by rw [hL2, gD_r (j := 1) (by omega)]; rfl
    have gq2 : L2.getD (49 + 4 * i) 0 = q2 := by rw [hL2, gD_r (j := 2) (by omega)]; rfl
    have hkeep : ∀ z, z < L.length → f2 (L.getD z 0) = f (L.getD z 0) := fun z hz => (off2 _ (List.mem_append_left _ (gD_m hz)) (fun e => hq (e ▸ gD_m hz))).trans (off1 _ (fun e => hq (e ▸ gD_m hz)))
    have hf2 : f2 (L.getD 2 0) = _ := (hkeep 2 (by omega)).trans h2
    refine pp_aast (r := (R_Txn, F_Txn, 5)) hx hb hN2 hLA2 hK hP hS (a := L.getD 2 0) (by rw [← old 2 (by omega)]; exact gD_m (by omega)) 3 3 hf2 rfl (v := q) (by rw [← gq]; exact gD_m (by omega)) hf2q rfl (vp_in_nI hi (by decide)) d_Store_init_100 (fun f3 H locs off3 hf32 hP hS => ?_)
    refine lv_iinc (k := 1) (v := nI (i + 1)) (lv' := [(2, .int (nI (i + 1))), (0, .ref a0)]) hx hb d_Store_init_101 hl rfl (by rw [show Int32.ofInt 1 = (1 : Int32) from by decide]; exact nI_1 i) (Nat.le_of_ble_eq_true rfl) rfl (fun ls hl => ?_)
    refine lv_goto hx hb d_Store_init_104 rfl ?_
    refine W.widen (k := 45 + 4 * (i + 1)) (n := 1926 + 23 * (i + 1)) (by omega) (by omega) ?_
    have ne2 : ∀ z, z < L2.length → z ≠ 2 → L2.getD z 0 ≠ L.getD 2 0 := fun z hz hz2 h9 => hz2 (gD_i hN2 hz (by omega) (h9.trans (old 2 (by omega)).symm))
    refine ih (i + 1) L2 f3 H locs ls (by omega) hlen2 hN2 hLA2 hP hS (by rw [old 0 (by omega)]; exact h0) ?_ ?_ ?_ (lv_sub hl [1, 0] rfl)
    · intro z hz hz1 hz2
      rw [off3 _ (ne2 z hz hz2)]
      by_cases hzl : z < L.length
      · rw [old z hzl, hkeep z hzl, hI z hzl hz1 hz2, hL2, List.append_assoc]
        exact (cP_app (fun j => by rw [hlen]; exact rP_2 (by omega) (by omega) hz1 hz2)).symm
      · have hzc : z = 46 + 4 * i ∨ z = 47 + 4 * i ∨ z = 48 + 4 * i ∨ z = 49 + 4 * i := by omega
        rcases hzc with rfl | rfl | rfl | rfl
        · rw [gq, hf2q, cP_txn hi, gq0, gq1, gq2]
        · rw [gq0, hf20, cP_t1 hi]
        · rw [gq1, hf21, cP_t2 hi]
        · rw [gq2, hf22, cP_t3 hi]
    · rw [off3 _ (ne2 1 (by omega) (by omega)), old 1 (by omega), hkeep 1 (by omega), h1]
      congr 7
      funext j
      by_cases hj : j < 6
      · rw [if_pos hj, if_pos hj, old _ (by omega)]
      · rw [if_neg hj, if_neg hj]
    · rw [old 2 (by omega), hf32, nI_clamp (by omega)]
      congr 7
      funext j
      unfold va_up
      by_cases hj : j = i
      · subst hj; rw [if_pos rfl, if_pos (by omega), gq]
      · rw [if_neg hj]
        show (if j < i then some (L.getD (46 + 4 * j) 0) else none) = _
        by_cases hj2 : j < i
        · rw [if_pos hj2, if_pos (by omega), old _ (by omega)]
        · rw [if_neg hj2, if_neg (by omega)]
set_option maxHeartbeats 8000000 in
set_option maxRecDepth 100000 in
theorem store_l1 (hx : p.tables.exec = Jvm.exec) (hb : c.code = b_Store_init) (hml : c.maxLocals = 3) (hr : meth.sig.returnType = none) (hlk : meth.locks = false) (hown : s.vm.findClass R_Store = some m.cls) (hall : ∀ w ∈ w_all, w.before args s = true) (hK : wK2 g s) (hA : ∀ q, s.heap.size ≤ q → A q) :
    ∀ (k i : Nat) (L : List Nat) (f : Nat → va_E) (H : Heap) (locs : List Loc) (ls : Array Slot), i + k = 6 → L.length = 4 + 7 * i → L.Nodup → (∀ z, z ∈ L → A z) → va_P g.1 classes (va_pl L f) H → va_S A s.heap H locs → L.getD 0 0 = a0 → Iv g ev L f → f (L.getD 1 0) = .inl (g.cN, 6, .inr (.inr (.inr (.inr (fun j => if j < i then some (L.getD (4 + 7 * j) 0) else none))))) → f (L.getD 2 0) = .inl (g.cT, 16, .inr (.inr (.inr (.inr (fun _ => none))))) → lv_has ls 3 [(0, .ref a0), (2, .int (nI i))] →
      W p l e { frames := 3, cells := 109, slots := 2294, locals := 54 } s m args below meth c H locs (3 + 7 * i) (24 + 317 * i) (MQ below (Qn g A (postS g ev a0)) args s 109 2294 A) (F0 m 50 ls []) := by
  intro k
  induction k with
  | zero =>
    intro i L f H locs ls hik hlen hN hLA hP hS h0 hI h1 h2 hl
    have hi : i = 6 := by omega
    subst hi
    refine lv_iload_n hx hb d_Store_init_50 rfl (lv_at hl 1 rfl) ?_
    refine lv_bipush (v := 6) hx hb d_Store_init_51 (by decide) ?_
    refine lv_icmp_ge hx hb d_Store_init_53 rfl (fun _ => ?_) (fun hc => absurd (by decide : (6 : Int32) ≤ nI 6) hc)
    refine lv_iconst (v := 0) hx hb d_Store_init_80 (by decide) ?_
    refine lv_istore_n (lv' := [(2, .int (nI 0)), (0, .ref a0)]) hx hb d_Store_init_81 rfl hl (Nat.le_of_ble_eq_true rfl) rfl (fun ls hl => ?_)
    exact store_l2 hx hb hml hr hlk hown hall hK hA 16 0 L f H locs ls (by omega) hlen hN hLA hP hS h0 hI h1 (by rw [h2]; congr 6) (lv_sub hl [1, 0] rfl)
  | succ k ih =>
    intro i L f H locs ls hik hlen hN hLA hP hS h0 hI h1 h2 hl
    have hi : i < 6 := by omega
    refine lv_iload_n hx hb d_Store_init_50 rfl (lv_at hl 1 rfl) ?_
    refine lv_bipush (v := 6) hx hb d_Store_init_51 (by decide) ?_
    refine lv_icmp_ge hx hb d_Store_init_53 rfl (fun hc => absurd hc (nI_ge hi (by decide))) (fun _ => ?_)
    refine lv_aload_n hx hb d_Store_init_56 rfl (lv_at hl 0 rfl) ?_
    have hf0 := Iv0 hI (by omega)
    rw [h0] at hf0
    have hm0 : a0 ∈ L := by rw [← h0]; exact gD_m (by omega)
    refine pp_get (C := R_Store) (T := F_Store) (N := 4) (ci := 4) hx hb hall i_Store hown hK hP hm0 hf0 rfl 1 (by decide) (hall _ m_8) (fun _ h9 => h9) rfl d_Store_init_57 ?_
    refine lv_iload_n hx hb d_Store_init_60 rfl (lv_at hl 1 rfl) ?_
    refine pp_new (ci := 2) (fs := [.int 0, .null, .null, .int 0, .int 0, .int 0, .int 0, .int 0, .int 0, .int 0]) (C := R_Node) (T := F_Node) (N := 10) hx hb hall i_Node t_Node t_Node_ok hown (hall _ m_687) (hall _ m_689) (hall _ m_48) hN hLA hK hP hS hA rfl (fun j hj => by rcases (show j = 0 ∨ j = 1 ∨ j = 2 ∨ j = 3 ∨ j = 4 ∨ j = 5 ∨ j = 6 ∨ j = 7 ∨ j = 8 ∨ j = 9 by omega) with rfl | rfl | rfl | rfl | rfl | rfl | rfl | rfl | rfl | rfl <;> rfl) (by show _ ≤ 109; omega) (by show _ ≤ 2294; omega) d_Store_init_61 (fun q f1 H hq hAq off1 hfq hP hS => ?_)
    have hN1 := pNd hN hq
    have hLA1 := pLA hLA hAq
    refine lv_dup hx hb d_Store_init_64 rfl ?_
    refine lv_iload_n hx hb d_Store_init_65 rfl (lv_at hl 1 rfl) ?_
    refine lv_aload_n hx hb d_Store_init_66 rfl (lv_at hl 0 rfl) ?_
    have hf01 := (off1 a0 (fun e => hq (e ▸ hm0))).trans hf0
    refine pp_get (C := R_Store) (T := F_Store) (N := 4) (ci := 4) hx hb hall i_Store hown hK hP (pIn hm0) hf01 rfl 0 (by decide) (hall _ m_0) (fun _ h9 => h9) rfl d_Store_init_67 ?_
    refine pp_init (As := [.int (nI i), .ref (L.getD 3 0)]) (rest := [.ref q, .int (nI i), .ref (L.getD 1 0)]) ⟨hx, hb, hml, hown, hall⟩ (c_Node_init l hN1 (pIs L q) hfq) (cwI 2 hall (gC m_679) rfl rfl rfl (hall _ m_48) (hall _ m_691) (hall _ m_693) rfl (by decide +kernel) ⟨Nat.le_of_ble_eq_true rfl, Nat.le_of_ble_eq_true rfl⟩) hK hP hS hA hLA1 rfl hl.1 rfl (Nat.le_of_ble_eq_true rfl) d_Store_init_70 ⟨by show _ ≤ 109; omega, by show _ ≤ 2294; omega⟩ (fun L2 f2 H locs hpost hLA2 hP hS => ?_)
    dsimp only at hpost
    obtain ⟨q0, r0, r1, r2, r3, r4, hL2, hN2, off2, hf2q, hf20, hr0, hr1, hr2, hr3, hr4⟩ := hpost
    have hL2 : L2 = (L ++ [q]) ++ [q0, r0, r1, r2, r3, r4] := hL2
    have hl1 : (L ++ [q]).length = 5 + 7 * i := by simp [hlen]; omega
    have hlen2 : L2.length = 4 + 7 * (i + 1) := by rw [hL2]; simp [hlen]; omega
    have old : ∀ z, z < L.length → L2.getD z 0 = L.getD z 0 := fun z hz => by rw [hL2, gD_l (by omega), gD_l hz]
    have gq : L2.getD (4 + 7 * i) 0 = q := by rw [hL2, gD_l (by omega), gD_r (j := 0) (by omega)]; rfl
    have gq0 : L2.getD (5 + 7 * i) 0 = q0 := by rw [hL2, gD_r (j := 0) (by omega)]; rfl
    have g0 : L2.getD (6 + 7 * i) 0 = r0 := by rw [hL2, gD_r (j := 1) (by omega)]; rfl
    have g1 : L2.getD (7 + 7 * i) 0 = r1 := by rw [hL2, gD_r (j := 2) (by omega)]; rfl
    have g2 : L2.getD (8 + 7 * i) 0 = r2 := by rw [hL2, gD_r (j := 3) (by omega)]; rfl
    have g3 : L2.getD (9 + 7 * i) 0 = r3 := by rw [hL2, gD_r (j := 4) (by omega)]; rfl
    have g4 : L2.getD (10 + 7 * i) 0 = r4 := by rw [hL2, gD_r (j := 5) (by omega)]; rfl
    have hkeep : ∀ z, z < L.length → f2 (L.getD z 0) = f (L.getD z 0) := fun z hz => (off2 _ (List.mem_append_left _ (gD_m hz)) (fun e => hq (e ▸ gD_m hz))).trans (off1 _ (fun e => hq (e ▸ gD_m hz)))
    have hf1 : f2 (L.getD 1 0) = _ := (hkeep 1 (by omega)).trans h1
    refine pp_aast (r := (R_Node, F_Node, 10)) hx hb hN2 hLA2 hK hP hS (a := L.getD 1 0) (by rw [← old 1 (by omega)]; exact gD_m (by omega)) 2 2 hf1 rfl (v := q) (by rw [← gq]; exact gD_m (by omega)) hf2q rfl (vp_in_nI hi (by decide)) d_Store_init_73 (fun f3 H locs off3 hf31 hP hS => ?_)
    refine lv_iinc (k := 1) (v := nI (i + 1)) (lv' := [(2, .int (nI (i + 1))), (0, .ref a0)]) hx hb d_Store_init_74 hl rfl (by rw [show Int32.ofInt 1 = (1 : Int32) from by decide]; exact nI_1 i) (Nat.le_of_ble_eq_true rfl) rfl (fun ls hl => ?_)
    refine lv_goto hx hb d_Store_init_77 rfl ?_
    refine W.widen (k := 3 + 7 * (i + 1)) (n := 24 + 317 * (i + 1)) (by omega) (by omega) ?_
    have ne1 : ∀ z, z < L2.length → z ≠ 1 → L2.getD z 0 ≠ L.getD 1 0 := fun z hz hz2 h9 => hz2 (gD_i hN2 hz (by omega) (h9.trans (old 1 (by omega)).symm))
    refine ih (i + 1) L2 f3 H locs ls (by omega) hlen2 hN2 hLA2 hP hS (by rw [old 0 (by omega)]; exact h0) ?_ ?_ ?_ (lv_sub hl [1, 0] rfl)
    · intro z hz hz1 hz2
      rw [off3 _ (ne1 z hz hz1)]
      by_cases hzl : z < L.length
      · rw [old z hzl, hkeep z hzl, hI z hzl hz1 hz2, hL2, List.append_assoc]
        exact (cP_app (fun j => by rw [hlen]; exact rP_1 (by omega) (by omega) hz1 hz2)).symm
      · have hzc : z = 4 + 7 * i ∨ z = 5 + 7 * i ∨ z = 6 + 7 * i ∨ z = 7 + 7 * i ∨ z = 8 + 7 * i ∨ z = 9 + 7 * i ∨ z = 10 + 7 * i := by omega
        rcases hzc with rfl | rfl | rfl | rfl | rfl | rfl | rfl
        · rw [gq, hf2q, cP_node hi, gq0, old 3 (by omega)]
        · rw [gq0, hf20, cP_log hi, g0, g1, g2, g3, g4]
        · rw [g0, hr0, cP_arr hi (by omega) (by omega)]
        · rw [g1, hr1, cP_arr hi (by omega) (by omega)]
        · rw [g2, hr2, cP_arr hi (by omega) (by omega)]
        · rw [g3, hr3, cP_arr hi (by omega) (by omega)]
        · rw [g4, hr4, cP_arr hi (by omega) (by omega)]
    · rw [old 1 (by omega), hf31, nI_clamp (by omega)]
      congr 7
      funext j
      unfold va_up
      by_cases hj : j = i
      · subst hj; rw [if_pos rfl, if_pos (by omega), gq]
      · rw [if_neg hj]
        show (if j < i then some (L.getD (4 + 7 * j) 0) else none) = _
        by_cases hj2 : j < i
        · rw [if_pos hj2, if_pos (by omega), old _ (by omega)]
        · rw [if_neg hj2, if_neg (by omega)]
    · rw [off3 _ (ne1 2 (by omega) (by omega)), old 2 (by omega), hkeep 2 (by omega), h2]
end

set_option maxHeartbeats 8000000 in
set_option maxRecDepth 100000 in
theorem c_Store_init (l : Launch) {g : Sg} {L : List Nat} {f : Nat → va_E} {a0 : Nat} {x1 : Int32} (hLe : L = [a0]) (hN : L.Nodup) (hm_a0 : a0 ∈ L) (hf_a0 : f a0 = .inr (4, [.null, .null, .null, .int 0])) : Ctn l g y_Store_init w_Store_init 3 54 109 2294 [.ref a0, .int x1] L f (postS g (epsOf x1) a0) := by
  intro sz
  refine Met.ofW (cc := b_Store_init) (maxL := 3) (ret := none) (by decide) rfl ?_
  intro p e s m args below meth c s₁ B hml hv
  obtain ⟨rfl, hsz, hP, hK⟩ := hv
  subst hsz
  have hts := atoms_spec (ws := w_Store_init) B.pre
  have hall : ∀ w ∈ w_all, w.before _ s = true := fun w hw => hts w (List.mem_cons_of_mem _ hw)
  have hown : s.vm.findClass R_Store = some m.cls := findClass_of_methodNamed B.named
  have hx := B.exec
  have hb := B.bytes
  have hr := B.returns
  have hlk := B.notSynchronized
  have hin : meth.name = "<init>" := (name_of_methodNamed B.named B.method).1
  have hl := lv_entry ([.ref a0, .int x1]) (n := 3) (Nat.le_of_ble_eq_true rfl)
  rw [lg_entry_eq]
  generalize (lg_sl ([.ref a0, .int x1]) ++ List.replicate (3 - (lg_sl ([.ref a0, .int x1])).length) Slot.unset).toArray = ls at hl ⊢
  have hl : lv_has ls 3 [(0, .ref a0), (1, .int x1)] := hl
  generalize hAe : An L s.heap.size = A
  have hA : ∀ q, s.heap.size ≤ q → A q := fun q h => by rw [← hAe]; exact Or.inr h
  have hLA : ∀ q, q ∈ L → A q := fun q h => by rw [← hAe]; exact Or.inl h
  have hS : va_S A s.heap s.heap [] := va_S.rf
  have hL0 : ∀ b, b ∈ L → b ∈ L := fun b h => h
  have hO : ∀ b, b ∈ L → b ≠ a0 → f b = f b := fun b _ _ => rfl
  refine lv_aload_n hx hb d_Store_init_0 rfl (lv_at hl 0 rfl) ?_
  refine W.objInit hx hb hown (hall _ m_694) (hall _ m_665) (hall _ m_666) rfl (by rw [hml]; exact hl.1) rfl d_Store_init_1 (Nat.le_of_ble_eq_true rfl) (Nat.le_of_ble_eq_true rfl) ?_
  refine W.eq (g2 := F0 m 4 ls []) rfl ?_
  refine lv_aload_n hx hb d_Store_init_4 rfl (lv_at hl 0 rfl) ?_
  refine lv_bipush (v := 6) hx hb d_Store_init_5 (by decide) ?_
  refine pp_newN (N' := 6) hx hb hown (hall _ m_687) hN hLA hK hP hS hA (by decide) (by decide) (by decide) (Nat.le_of_ble_eq_true rfl) (Nat.le_of_ble_eq_true rfl) d_Store_init_7 (fun q0 f H hq hAq off hf_q0 hP hS => ?_)
  have hN := pNd hN hq
  have hLA := pLA hLA hAq
  have hf_a0 := (off a0 (fun e => hq (e ▸ hm_a0))).trans hf_a0
  have hO := pOn hO hL0 hq off
  have hL0 := pL0 (q := q0) hL0
  have hne_q0 : q0 ≠ a0 := fun e => hq (e ▸ hm_a0)
  have hm_a0 := pIn (q := q0) hm_a0
  have hm_q0 := pIs (L) q0
  refine pp_putF (ci := 4) (v := .ref q0) (ty := (.array (.object "StampedStore$Node"))) (fs' := [.null, .ref q0, .null, .int 0]) (C := R_Store) (T := F_Store) (N := 4) hx hb hall i_Store t_Store t_Store_ok n_Store hown hN hLA hK hP hS hm_a0 hf_a0 rfl 1 (by decide) (hall _ m_8) (fun _ h9 => h9) rfl hin rfl (by decide +kernel) rfl rfl (Nat.le_of_ble_eq_true rfl) rfl d_Store_init_10 (fun f H locs off hf_a0 hP hS => ?_)
  have hf_q0 := (off q0 hne_q0).trans hf_q0
  have hO := pOp hO off
  refine lv_aload_n hx hb d_Store_init_13 rfl (lv_at hl 0 rfl) ?_
  refine lv_bipush (v := 16) hx hb d_Store_init_14 (by decide) ?_
  refine pp_newT (N' := 16) hx hb hown (hall _ m_686) hN hLA hK hP hS hA (by decide) (by decide) (by decide) (Nat.le_of_ble_eq_true rfl) (Nat.le_of_ble_eq_true rfl) d_Store_init_16 (fun q1 f H hq hAq off hf_q1 hP hS => ?_)
  have nq_q0_q1 : q0 ≠ q1 := fun e => hq (e ▸ hm_q0)
  have hN := pNd hN hq
  have hLA := pLA hLA hAq
  have hf_a0 := (off a0 (fun e => hq (e ▸ hm_a0))).trans hf_a0
  have hf_q0 := (off q0 (fun e => hq (e ▸ hm_q0))).trans hf_q0
  have hO := pOn hO hL0 hq off
  have hL0 := pL0 (q := q1) hL0
  have hne_q1 : q1 ≠ a0 := fun e => hq (e ▸ hm_a0)
  have hm_a0 := pIn (q := q1) hm_a0
  have hm_q0 := pIn (q := q1) hm_q0
  have hm_q1 := pIs (L ++ [q0]) q1
  refine pp_putF (ci := 4) (v := .ref q1) (ty := (.array (.object "StampedStore$Transaction"))) (fs' := [.null, .ref q0, .ref q1, .int 0]) (C := R_Store) (T := F_Store) (N := 4) hx hb hall i_Store t_Store t_Store_ok n_Store hown hN hLA hK hP hS hm_a0 hf_a0 rfl 2 (by decide) (hall _ m_202) (fun _ h9 => h9) rfl hin rfl (by decide +kernel) rfl rfl (Nat.le_of_ble_eq_true rfl) rfl d_Store_init_19 (fun f H locs off hf_a0 hP hS => ?_)
  have hf_q0 := (off q0 hne_q0).trans hf_q0
  have hf_q1 := (off q1 hne_q1).trans hf_q1
  have hO := pOp hO off
  refine lv_aload_n hx hb d_Store_init_22 rfl (lv_at hl 0 rfl) ?_
  refine pp_new (ci := 0) (fs := [.int 0, .int 0]) (C := R_Clock) (T := F_Clock) (N := 2) hx hb hall i_Clock t_Clock t_Clock_ok hown (hall _ m_695) (hall _ m_696) (hall _ m_697) hN hLA hK hP hS hA rfl (fun j hj => by rcases (show j = 0 ∨ j = 1 by omega) with rfl | rfl <;> rfl) (Nat.le_of_ble_eq_true rfl) (Nat.le_of_ble_eq_true rfl) d_Store_init_23 (fun q2 f H hq hAq off hf_q2 hP hS => ?_)
  have nq_q0_q2 : q0 ≠ q2 := fun e => hq (e ▸ hm_q0)
  have nq_q1_q2 : q1 ≠ q2 := fun e => hq (e ▸ hm_q1)
  have hN := pNd hN hq
  have hLA := pLA hLA hAq
  have hf_a0 := (off a0 (fun e => hq (e ▸ hm_a0))).trans hf_a0
  have hf_q0 := (off q0 (fun e => hq (e ▸ hm_q0))).trans hf_q0
  have hf_q1 := (off q1 (fun e => hq (e ▸ hm_q1))).trans hf_q1
  have hO := pOn hO hL0 hq off
  have hL0 := pL0 (q := q2) hL0
  have hne_q2 : q2 ≠ a0 := fun e => hq (e ▸ hm_a0)
  have hm_a0 := pIn (q := q2) hm_a0
  have hm_q0 := pIn (q := q2) hm_q0
  have hm_q1 := pIn (q := q2) hm_q1
  have hm_q2 := pIs (L ++ [q0] ++ [q1]) q2
  refine lv_dup hx hb d_Store_init_26 rfl ?_
  refine lv_iload_n hx hb d_Store_init_27 rfl (lv_at hl 1 rfl) ?_
  refine lv_if_lt hx hb d_Store_init_28 rfl (fun hc => ?_) (fun hc => ?_)
  · refine lv_iconst (v := 5) hx hb d_Store_init_41 (by decide) ?_
    have hev : (5 : Int32) = epsOf x1 := by unfold epsOf; rw [if_pos hc]
    refine pp_init (As := [.int (5 : Int32)]) (rest := [.ref q2, .ref a0]) ⟨hx, hb, hml, hown, hall⟩ (c_Clock_init l hN hm_q2 hf_q2) (cwI 1 hall (gC m_663) rfl rfl rfl (hall _ m_697) (hall _ m_698) (hall _ m_699) rfl (by decide +kernel) ⟨Nat.le_of_ble_eq_true rfl, Nat.le_of_ble_eq_true rfl⟩) hK hP hS hA hLA rfl hl.1 rfl (Nat.le_of_ble_eq_true rfl) d_Store_init_42 ⟨Nat.le_of_ble_eq_true rfl, Nat.le_of_ble_eq_true rfl⟩ (fun L' f H locs hpost hLA hP hS => ?_)
    dsimp only at hpost
    obtain ⟨hL', off, hf_q2⟩ := hpost
    subst hL'
    have hf_a0 := (off a0 hm_a0 hne_q2.symm).trans hf_a0
    have hf_q0 := (off q0 hm_q0 nq_q0_q2).trans hf_q0
    have hf_q1 := (off q1 hm_q1 nq_q1_q2).trans hf_q1
    refine pp_putF (ci := 4) (v := .ref q2) (ty := (.object "StampedStore$Clock")) (fs' := [.ref q2, .ref q0, .ref q1, .int 0]) (C := R_Store) (T := F_Store) (N := 4) hx hb hall i_Store t_Store t_Store_ok n_Store hown hN hLA hK hP hS hm_a0 hf_a0 rfl 0 (by decide) (hall _ m_0) (fun _ h9 => h9) rfl hin rfl (by decide +kernel) rfl rfl (Nat.le_of_ble_eq_true rfl) rfl d_Store_init_45 (fun f H locs off hf_a0 hP hS => ?_)
    have hf_q0 := (off q0 hne_q0).trans hf_q0
    have hf_q1 := (off q1 hne_q1).trans hf_q1
    have hf_q2 := (off q2 hne_q2).trans hf_q2
    refine lv_iconst (v := 0) hx hb d_Store_init_48 (by decide) ?_
    refine lv_istore_n (lv' := [(2, .int (nI 0)), (0, .ref a0), (1, .int x1)]) hx hb d_Store_init_49 rfl hl (Nat.le_of_ble_eq_true rfl) rfl (fun ls hl => ?_)
    subst hLe
    refine store_l1 (ev := epsOf x1) hx hb hml hr hlk hown hall hK hA 6 0 [a0, q0, q1, q2] f H locs ls rfl rfl hN hLA hP hS rfl ?_ ?_ hf_q1 (lv_sub hl [1, 0] rfl)
    · intro z hz hz1 hz2
      have hz : z < 4 := hz
      rcases (show z = 0 ∨ z = 3 by omega) with rfl | rfl
      · exact hf_a0.trans rfl
      · exact hf_q2.trans (by rw [hev]; rfl)
    · exact hf_q0.trans (by congr 6)
  · refine lv_iload_n hx hb d_Store_init_31 rfl (lv_at hl 1 rfl) ?_
    refine lv_bipush (v := 10) hx hb d_Store_init_32 (by decide) ?_
    refine lv_icmp_gt hx hb d_Store_init_34 rfl (fun hc2 => ?_) (fun hc2 => ?_)
    · refine lv_iconst (v := 5) hx hb d_Store_init_41 (by decide) ?_
      have hev : (5 : Int32) = epsOf x1 := by unfold epsOf; rw [if_neg hc, if_pos hc2]
      refine pp_init (As := [.int (5 : Int32)]) (rest := [.ref q2, .ref a0]) ⟨hx, hb, hml, hown, hall⟩ (c_Clock_init l hN hm_q2 hf_q2) (cwI 1 hall (gC m_663) rfl rfl rfl (hall _ m_697) (hall _ m_698) (hall _ m_699) rfl (by decide +kernel) ⟨Nat.le_of_ble_eq_true rfl, Nat.le_of_ble_eq_true rfl⟩) hK hP hS hA hLA rfl hl.1 rfl (Nat.le_of_ble_eq_true rfl) d_Store_init_42 ⟨Nat.le_of_ble_eq_true rfl, Nat.le_of_ble_eq_true rfl⟩ (fun L' f H locs hpost hLA hP hS => ?_)
      dsimp only at hpost
      obtain ⟨hL', off, hf_q2⟩ := hpost
      subst hL'
      have hf_a0 := (off a0 hm_a0 hne_q2.symm).trans hf_a0
      have hf_q0 := (off q0 hm_q0 nq_q0_q2).trans hf_q0
      have hf_q1 := (off q1 hm_q1 nq_q1_q2).trans hf_q1
      refine pp_putF (ci := 4) (v := .ref q2) (ty := (.object "StampedStore$Clock")) (fs' := [.ref q2, .ref q0, .ref q1, .int 0]) (C := R_Store) (T := F_Store) (N := 4) hx hb hall i_Store t_Store t_Store_ok n_Store hown hN hLA hK hP hS hm_a0 hf_a0 rfl 0 (by decide) (hall _ m_0) (fun _ h9 => h9) rfl hin rfl (by decide +kernel) rfl rfl (Nat.le_of_ble_eq_true rfl) rfl d_Store_init_45 (fun f H locs off hf_a0 hP hS => ?_)
      have hf_q0 := (off q0 hne_q0).trans hf_q0
      have hf_q1 := (off q1 hne_q1).trans hf_q1
      have hf_q2 := (off q2 hne_q2).trans hf_q2
      refine lv_iconst (v := 0) hx hb d_Store_init_48 (by decide) ?_
      refine lv_istore_n (lv' := [(2, .int (nI 0)), (0, .ref a0), (1, .int x1)]) hx hb d_Store_init_49 rfl hl (Nat.le_of_ble_eq_true rfl) rfl (fun ls hl => ?_)
      subst hLe
      refine store_l1 (ev := epsOf x1) hx hb hml hr hlk hown hall hK hA 6 0 [a0, q0, q1, q2] f H locs ls rfl rfl hN hLA hP hS rfl ?_ ?_ hf_q1 (lv_sub hl [1, 0] rfl)
      · intro z hz hz1 hz2
        have hz : z < 4 := hz
        rcases (show z = 0 ∨ z = 3 by omega) with rfl | rfl
        · exact hf_a0.trans rfl
        · exact hf_q2.trans (by rw [hev]; rfl)
      · exact hf_q0.trans (by congr 6)
    · refine lv_iload_n hx hb d_Store_init_37 rfl (lv_at hl 1 rfl) ?_
      refine lv_goto hx hb d_Store_init_38 rfl ?_
      have hev : x1 = epsOf x1 := by unfold epsOf; rw [if_neg hc, if_neg hc2]
      refine pp_init (As := [.int x1]) (rest := [.ref q2, .ref a0]) ⟨hx, hb, hml, hown, hall⟩ (c_Clock_init l hN hm_q2 hf_q2) (cwI 1 hall (gC m_663) rfl rfl rfl (hall _ m_697) (hall _ m_698) (hall _ m_699) rfl (by decide +kernel) ⟨Nat.le_of_ble_eq_true rfl, Nat.le_of_ble_eq_true rfl⟩) hK hP hS hA hLA rfl hl.1 rfl (Nat.le_of_ble_eq_true rfl) d_Store_init_42 ⟨Nat.le_of_ble_eq_true rfl, Nat.le_of_ble_eq_true rfl⟩ (fun L' f H locs hpost hLA hP hS => ?_)
      dsimp only at hpost
      obtain ⟨hL', off, hf_q2⟩ := hpost
      subst hL'
      have hf_a0 := (off a0 hm_a0 hne_q2.symm).trans hf_a0
      have hf_q0 := (off q0 hm_q0 nq_q0_q2).trans hf_q0
      have hf_q1 := (off q1 hm_q1 nq_q1_q2).trans hf_q1
      refine pp_putF (ci := 4) (v := .ref q2) (ty := (.object "StampedStore$Clock")) (fs' := [.ref q2, .ref q0, .ref q1, .int 0]) (C := R_Store) (T := F_Store) (N := 4) hx hb hall i_Store t_Store t_Store_ok n_Store hown hN hLA hK hP hS hm_a0 hf_a0 rfl 0 (by decide) (hall _ m_0) (fun _ h9 => h9) rfl hin rfl (by decide +kernel) rfl rfl (Nat.le_of_ble_eq_true rfl) rfl d_Store_init_45 (fun f H locs off hf_a0 hP hS => ?_)
      have hf_q0 := (off q0 hne_q0).trans hf_q0
      have hf_q1 := (off q1 hne_q1).trans hf_q1
      have hf_q2 := (off q2 hne_q2).trans hf_q2
      refine lv_iconst (v := 0) hx hb d_Store_init_48 (by decide) ?_
      refine lv_istore_n (lv' := [(2, .int (nI 0)), (0, .ref a0), (1, .int x1)]) hx hb d_Store_init_49 rfl hl (Nat.le_of_ble_eq_true rfl) rfl (fun ls hl => ?_)
      subst hLe
      refine store_l1 (ev := epsOf x1) hx hb hml hr hlk hown hall hK hA 6 0 [a0, q0, q1, q2] f H locs ls rfl rfl hN hLA hP hS rfl ?_ ?_ hf_q1 (lv_sub hl [1, 0] rfl)
      · intro z hz hz1 hz2
        have hz : z < 4 := hz
        rcases (show z = 0 ∨ z = 3 by omega) with rfl | rfl
        · exact hf_a0.trans rfl
        · exact hf_q2.trans (by rw [← hev]; rfl)
      · exact hf_q0.trans (by congr 6)
