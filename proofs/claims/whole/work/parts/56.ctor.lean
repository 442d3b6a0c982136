theorem m_663 : (Jvm.Cond.code ({ cls := "StampedStore$Clock", name := "<init>", desc := "(I)V" } : Jvm.MethodName) prog_2_method_1_code (2 : Nat) (Option.none : Option Jvm.ClassFile.FieldType)) ∈ w_all := gB (List.mem_append_right _ (List.mem_append_left _ (List.mem_of_getElem? (l := tables_1_1) (i := 25) rfl))) rfl
theorem m_664 : (Jvm.Cond.methodLink "StampedStore$Clock" (1 : Nat) ({ cls := "java/lang/Object", name := "<init>", desc := "()V" } : Jvm.MethodName)) ∈ w_all := gB (List.mem_append_right _ (List.mem_append_left _ (List.mem_of_getElem? (l := tables_1_1) (i := 26) rfl))) rfl
theorem m_665 : (Jvm.Cond.instanceMethod ({ cls := "java/lang/Object", name := "<init>", desc := "()V" } : Jvm.MethodName)) ∈ w_all := gB (List.mem_append_right _ (List.mem_append_left _ (List.mem_of_getElem? (l := tables_1_1) (i := 15) rfl))) rfl
theorem m_666 : (Jvm.Cond.code ({ cls := "java/lang/Object", name := "<init>", desc := "()V" } : Jvm.MethodName) object_method_1_code (1 : Nat) (Option.none : Option Jvm.ClassFile.FieldType)) ∈ w_all := gB (List.mem_append_right _ (List.mem_append_left _ (List.mem_of_getElem? (l := tables_1_1) (i := 16) rfl))) rfl
theorem m_667 : (Jvm.Cond.fieldLink "StampedStore$Clock" (7 : Nat) "StampedStore$Clock" "eps" "I") ∈ w_all := gB (List.mem_append_right _ (List.mem_append_left _ (List.mem_of_getElem? (l := tables_1_1) (i := 27) rfl))) rfl
theorem m_668 : (Jvm.Cond.code ({ cls := "StampedStore$Log", name := "<init>", desc := "()V" } : Jvm.MethodName) prog_3_method_1_code (1 : Nat) (Option.none : Option Jvm.ClassFile.FieldType)) ∈ w_all := gB (List.mem_append_right _ (List.mem_append_left _ (List.mem_of_getElem? (l := tables_1_1) (i := 46) rfl))) rfl
theorem m_669 : (Jvm.Cond.methodLink "StampedStore$Log" (3 : Nat) ({ cls := "java/lang/Object", name := "<init>", desc := "()V" } : Jvm.MethodName)) ∈ w_all := gB (List.mem_append_right _ (List.mem_append_left _ (List.mem_of_getElem? (l := tables_1_1) (i := 47) rfl))) rfl
theorem m_670 : (Jvm.Cond.arrayClass Jvm.ClassFile.FieldType.int) ∈ w_all := gB (List.mem_append_right _ (List.mem_append_left _ (List.mem_of_getElem? (l := tables_1_1) (i := 76) rfl))) rfl
theorem m_671 : (Jvm.Cond.code ({ cls := "java/util/Arrays", name := "fill", desc := "([II)V" } : Jvm.MethodName) prog_9_method_103_code (4 : Nat) (Option.none : Option Jvm.ClassFile.FieldType)) ∈ w_all := gB (List.mem_append_right _ (List.mem_append_left _ (List.mem_of_getElem? (l := tables_1_1) (i := 122) rfl))) rfl
theorem m_672 : (Jvm.Cond.code ({ cls := "StampedStore$Transaction", name := "<init>", desc := "()V" } : Jvm.MethodName) prog_5_method_1_code (1 : Nat) (Option.none : Option Jvm.ClassFile.FieldType)) ∈ w_all := gB (List.mem_append_right _ (List.mem_append_left _ (List.mem_of_getElem? (l := tables_1_1) (i := 118) rfl))) rfl
theorem m_673 : (Jvm.Cond.methodLink "StampedStore$Transaction" (3 : Nat) ({ cls := "java/lang/Object", name := "<init>", desc := "()V" } : Jvm.MethodName)) ∈ w_all := gB (List.mem_append_right _ (List.mem_append_left _ (List.mem_of_getElem? (l := tables_1_1) (i := 119) rfl))) rfl
theorem m_674 : (Jvm.Cond.arrayClass Jvm.ClassFile.FieldType.boolean) ∈ w_all := gB (List.mem_append_right _ (List.mem_append_left _ (List.mem_of_getElem? (l := tables_1_1) (i := 143) rfl))) rfl
theorem m_675 : (Jvm.Cond.fieldLink "StampedStore$Transaction" (22 : Nat) "StampedStore$Transaction" "state" "I") ∈ w_all := gB (List.mem_append_right _ (List.mem_append_left _ (List.mem_of_getElem? (l := tables_1_1) (i := 129) rfl))) rfl
theorem m_676 : (Jvm.Cond.initialized "java/util/Arrays") ∈ w_all := gB (List.mem_append_right _ (List.mem_append_left _ (List.mem_of_getElem? (l := tables_1_1) (i := 6) rfl))) rfl
theorem m_677 : (Jvm.Cond.methodLink "StampedStore$Transaction" (26 : Nat) ({ cls := "java/util/Arrays", name := "fill", desc := "([II)V" } : Jvm.MethodName)) ∈ w_all := gB (List.mem_append_right _ (List.mem_append_left _ (List.mem_of_getElem? (l := tables_1_1) (i := 120) rfl))) rfl
theorem m_678 : (Jvm.Cond.static ({ cls := "java/util/Arrays", name := "fill", desc := "([II)V" } : Jvm.MethodName)) ∈ w_all := gB (List.mem_append_right _ (List.mem_append_left _ (List.mem_of_getElem? (l := tables_1_1) (i := 121) rfl))) rfl
theorem m_679 : (Jvm.Cond.code ({ cls := "StampedStore$Node", name := "<init>", desc := "(ILStampedStore$Clock;)V" } : Jvm.MethodName) prog_4_method_1_code (3 : Nat) (Option.none : Option Jvm.ClassFile.FieldType)) ∈ w_all := gB (List.mem_append_right _ (List.mem_append_left _ (List.mem_of_getElem? (l := tables_1_1) (i := 40) rfl))) rfl
theorem m_680 : (Jvm.Cond.methodLink "StampedStore$Node" (3 : Nat) ({ cls := "java/lang/Object", name := "<init>", desc := "()V" } : Jvm.MethodName)) ∈ w_all := gB (List.mem_append_right _ (List.mem_append_left _ (List.mem_of_getElem? (l := tables_1_1) (i := 41) rfl))) rfl
theorem m_681 : (Jvm.Cond.classLink "StampedStore$Node" (9 : Nat) "StampedStore$Log") ∈ w_all := gB (List.mem_append_right _ (List.mem_append_left _ (List.mem_of_getElem? (l := tables_1_1) (i := 42) rfl))) rfl
theorem m_682 : (Jvm.Cond.instantiable "StampedStore$Log" (7 : Nat)) ∈ w_all := gB (List.mem_append_right _ (List.mem_append_left _ (List.mem_of_getElem? (l := tables_1_1) (i := 43) rfl))) rfl
theorem m_683 : (Jvm.Cond.instanceMethod ({ cls := "StampedStore$Log", name := "<init>", desc := "()V" } : Jvm.MethodName)) ∈ w_all := gB (List.mem_append_right _ (List.mem_append_left _ (List.mem_of_getElem? (l := tables_1_1) (i := 45) rfl))) rfl
theorem m_684 : (Jvm.Cond.fieldLink "StampedStore$Node" (18 : Nat) "StampedStore$Node" "up" "Z") ∈ w_all := gB (List.mem_append_right _ (List.mem_append_left _ (List.mem_of_getElem? (l := tables_1_1) (i := 82) rfl))) rfl
section
theorem pLA {A : Nat → Prop} {L : List Nat} {q : Nat} (h : ∀ z, z ∈ L → A z) (hq : A q) : ∀ z, z ∈ L ++ [q] → A z := fun z hz => (List.mem_append.mp hz).elim (h z) (fun e => by rw [List.mem_singleton.mp e]; exact hq)
theorem pIn {L : List Nat} {x q : Nat} (h : x ∈ L) : x ∈ L ++ [q] := List.mem_append_left _ h
theorem pIs (L : List Nat) (q : Nat) : q ∈ L ++ [q] := List.mem_append_right _ (List.mem_singleton.mpr rfl)
theorem pL0 {L0 L : List Nat} {q : Nat} (h : ∀ b, b ∈ L0 → b ∈ L) : ∀ b, b ∈ L0 → b ∈ L ++ [q] := fun b hb => pIn (h b hb)
theorem pOn {f0 f f' : Nat → va_E} {L0 L : List Nat} {a q : Nat} (h : ∀ b, b ∈ L0 → b ≠ a → f b = f0 b) (hL : ∀ b, b ∈ L0 → b ∈ L) (hq : q ∉ L) (off : Off f f' q) : ∀ b, b ∈ L0 → b ≠ a → f' b = f0 b := fun b hb hn => (off b (fun e => hq (e ▸ hL b hb))).trans (h b hb hn)
theorem pOp {f0 f f' : Nat → va_E} {L0 : List Nat} {a : Nat} (h : ∀ b, b ∈ L0 → b ≠ a → f b = f0 b) (off : Off f f' a) : ∀ b, b ∈ L0 → b ≠ a → f' b = f0 b := fun b hb hn => (off b hn).trans (h b hb hn)
end

abbrev b_Clock_init : ByteArray := prog_2_method_1_code
def y_Clock_init : MethodName := ⟨"StampedStore$Clock", "<init>", "(I)V"⟩
def w_Clock_init : List Cond := .code y_Clock_init b_Clock_init 2 none :: w_all
theorem d_Clock_init_0 : decode b_Clock_init 0 = .ok (.aload_n 0, 1) := by decide +kernel
theorem d_Clock_init_1 : decode b_Clock_init 1 = .ok (.invokespecial 1, 3) := by decide +kernel
theorem d_Clock_init_4 : decode b_Clock_init 4 = .ok (.aload_n 0, 1) := by decide +kernel
theorem d_Clock_init_5 : decode b_Clock_init 5 = .ok (.iload_n 1, 1) := by decide +kernel
theorem d_Clock_init_6 : decode b_Clock_init 6 = .ok (.putfield 7, 3) := by decide +kernel
theorem d_Clock_init_9 : decode b_Clock_init 9 = .ok (.return_, 1) := by decide +kernel
set_option maxHeartbeats 8000000 in
set_option maxRecDepth 100000 in
theorem c_Clock_init (l : Launch) {g : Sg} {L : List Nat} {f : Nat → va_E} {a0 : Nat} {x1 : Int32} (hN : L.Nodup) (hm_a0 : a0 ∈ L) (hf_a0 : f a0 = .inr (0, [.int 0, .int 0])) : Ctn l g y_Clock_init w_Clock_init 1 12 0 0 [.ref a0, .int x1] L f (fun u => u.1 = L ∧ (∀ b, b ∈ L → b ≠ a0 → u.2 b = f b) ∧ u.2 a0 = .inr (0, [.int x1, .int 0])) := by
  intro sz
  refine Met.ofW (cc := b_Clock_init) (maxL := 2) (ret := none) (by decide) rfl ?_
  intro p e s m args below meth c s₁ B hml hv
  obtain ⟨rfl, hsz, hP, hK⟩ := hv
  subst hsz
  have hts := atoms_spec (ws := w_Clock_init) B.pre
  have hall : ∀ w ∈ w_all, w.before _ s = true := fun w hw => hts w (List.mem_cons_of_mem _ hw)
  have hown : s.vm.findClass R_Clock = some m.cls := findClass_of_methodNamed B.named
  have hx := B.exec
  have hb := B.bytes
  have hr := B.returns
  have hlk := B.notSynchronized
  have hin : meth.name = "<init>" := (name_of_methodNamed B.named B.method).1
  have hl := lv_entry ([.ref a0, .int x1]) (n := 2) (Nat.le_of_ble_eq_true rfl)
  rw [lg_entry_eq]
  generalize (lg_sl ([.ref a0, .int x1]) ++ List.replicate (2 - (lg_sl ([.ref a0, .int x1])).length) Slot.unset).toArray = ls at hl ⊢
  have hl : lv_has ls 2 [(0, .ref a0), (1, .int x1)] := hl
  generalize hAe : An L s.heap.size = A
  have hA : ∀ q, s.heap.size ≤ q → A q := fun q h => by rw [← hAe]; exact Or.inr h
  have hLA : ∀ q, q ∈ L → A q := fun q h => by rw [← hAe]; exact Or.inl h
  have hS : va_S A s.heap s.heap [] := va_S.rf
  have hL0 : ∀ b, b ∈ L → b ∈ L := fun b h => h
  have hO : ∀ b, b ∈ L → b ≠ a0 → f b = f b := fun b _ _ => rfl
  refine lv_aload_n hx hb d_Clock_init_0 rfl (lv_at hl 0 rfl) ?_
  refine W.objInit hx hb hown (hall _ m_664) (hall _ m_665) (hall _ m_666) rfl (by rw [hml]; exact hl.1) rfl d_Clock_init_1 (Nat.le_of_ble_eq_true rfl) (Nat.le_of_ble_eq_true rfl) ?_
  refine W.eq (g2 := F0 m 4 ls []) rfl ?_
  refine lv_aload_n hx hb d_Clock_init_4 rfl (lv_at hl 0 rfl) ?_
  refine lv_iload_n hx hb d_Clock_init_5 rfl (lv_at hl 1 rfl) ?_
  refine pp_putF (ci := 0) (v := .int x1) (ty := .int) (fs' := [.int x1, .int 0]) (C := R_Clock) (T := F_Clock) (N := 2) hx hb hall i_Clock t_Clock t_Clock_ok n_Clock hown hN hLA hK hP hS hm_a0 hf_a0 rfl 0 (by decide) (hall _ m_667) (fun _ h9 => h9) rfl hin rfl (by decide +kernel) rfl rfl (Nat.le_of_ble_eq_true rfl) rfl d_Clock_init_6 (fun f H locs off hf_a0 hP hS => ?_)
  have hO := pOp hO off
  exact pp_vret hx hb hr hlk hK hP hS hLA ⟨rfl, hO, hf_a0⟩ d_Clock_init_9
abbrev b_Log_init : ByteArray := prog_3_method_1_code
def y_Log_init : MethodName := ⟨"StampedStore$Log", "<init>", "()V"⟩
def w_Log_init : List Cond := .code y_Log_init b_Log_init 1 none :: w_all
theorem d_Log_init_0 : decode b_Log_init 0 = .ok (.aload_n 0, 1) := by decide +kernel
theorem d_Log_init_1 : decode b_Log_init 1 = .ok (.invokespecial 3, 3) := by decide +kernel
theorem d_Log_init_4 : decode b_Log_init 4 = .ok (.aload_n 0, 1) := by decide +kernel
theorem d_Log_init_5 : decode b_Log_init 5 = .ok (.bipush 60, 2) := by decide +kernel
theorem d_Log_init_7 : decode b_Log_init 7 = .ok (.newarray .int, 2) := by decide +kernel
theorem d_Log_init_9 : decode b_Log_init 9 = .ok (.putfield 9, 3) := by decide +kernel
theorem d_Log_init_12 : decode b_Log_init 12 = .ok (.aload_n 0, 1) := by decide +kernel
theorem d_Log_init_13 : decode b_Log_init 13 = .ok (.bipush 60, 2) := by decide +kernel
theorem d_Log_init_15 : decode b_Log_init 15 = .ok (.newarray .int, 2) := by decide +kernel
theorem d_Log_init_17 : decode b_Log_init 17 = .ok (.putfield 15, 3) := by decide +kernel
theorem d_Log_init_20 : decode b_Log_init 20 = .ok (.aload_n 0, 1) := by decide +kernel
theorem d_Log_init_21 : decode b_Log_init 21 = .ok (.bipush 60, 2) := by decide +kernel
theorem d_Log_init_23 : decode b_Log_init 23 = .ok (.newarray .int, 2) := by decide +kernel
theorem d_Log_init_25 : decode b_Log_init 25 = .ok (.putfield 18, 3) := by decide +kernel
theorem d_Log_init_28 : decode b_Log_init 28 = .ok (.aload_n 0, 1) := by decide +kernel
theorem d_Log_init_29 : decode b_Log_init 29 = .ok (.bipush 60, 2) := by decide +kernel
theorem d_Log_init_31 : decode b_Log_init 31 = .ok (.newarray .int, 2) := by decide +kernel
theorem d_Log_init_33 : decode b_Log_init 33 = .ok (.putfield 21, 3) := by decide +kernel
theorem d_Log_init_36 : decode b_Log_init 36 = .ok (.aload_n 0, 1) := by decide +kernel
theorem d_Log_init_37 : decode b_Log_init 37 = .ok (.bipush 60, 2) := by decide +kernel
theorem d_Log_init_39 : decode b_Log_init 39 = .ok (.newarray .int, 2) := by decide +kernel
theorem d_Log_init_41 : decode b_Log_init 41 = .ok (.putfield 24, 3) := by decide +kernel
theorem d_Log_init_44 : decode b_Log_init 44 = .ok (.return_, 1) := by decide +kernel
set_option maxHeartbeats 8000000 in
set_option maxRecDepth 100000 in
theorem c_Log_init (l : Launch) {g : Sg} {L : List Nat} {f : Nat → va_E} {a0 : Nat} (hN : L.Nodup) (hm_a0 : a0 ∈ L) (hf_a0 : f a0 = .inr (1, [.null, .null, .null, .null, .null, .int 0, .int 0])) : Ctn l g y_Log_init w_Log_init 1 12 5 300 [.ref a0] L f (fun u => ∃ q0 q1 q2 q3 q4 : Nat, u.1 = L ++ [q0, q1, q2, q3, q4] ∧ u.1.Nodup ∧ (∀ b, b ∈ L → b ≠ a0 → u.2 b = f b) ∧ u.2 a0 = .inr (1, [.ref q0, .ref q1, .ref q2, .ref q3, .ref q4, .int 0, .int 0]) ∧ u.2 q0 = .inl (g.cI, 60, .inl (fun _ => 0)) ∧ u.2 q1 = .inl (g.cI, 60, .inl (fun _ => 0)) ∧ u.2 q2 = .inl (g.cI, 60, .inl (fun _ => 0)) ∧ u.2 q3 = .inl (g.cI, 60, .inl (fun _ => 0)) ∧ u.2 q4 = .inl (g.cI, 60, .inl (fun _ => 0))) := by
  intro sz
  refine Met.ofW (cc := b_Log_init) (maxL := 1) (ret := none) (by decide) rfl ?_
  intro p e s m args below meth c s₁ B hml hv
  obtain ⟨rfl, hsz, hP, hK⟩ := hv
  subst hsz
  have hts := atoms_spec (ws := w_Log_init) B.pre
  have hall : ∀ w ∈ w_all, w.before _ s = true := fun w hw => hts w (List.mem_cons_of_mem _ hw)
  have hown : s.vm.findClass R_Log = some m.cls := findClass_of_methodNamed B.named
  have hx := B.exec
  have hb := B.bytes
  have hr := B.returns
  have hlk := B.notSynchronized
  have hin : meth.name = "<init>" := (name_of_methodNamed B.named B.method).1
  have hl := lv_entry ([.ref a0]) (n := 1) (Nat.le_of_ble_eq_true rfl)
  rw [lg_entry_eq]
  generalize (lg_sl ([.ref a0]) ++ List.replicate (1 - (lg_sl ([.ref a0])).length) Slot.unset).toArray = ls at hl ⊢
  have hl : lv_has ls 1 [(0, .ref a0)] := hl
  generalize hAe : An L s.heap.size = A
  have hA : ∀ q, s.heap.size ≤ q → A q := fun q h => by rw [← hAe]; exact Or.inr h
  have hLA : ∀ q, q ∈ L → A q := fun q h => by rw [← hAe]; exact Or.inl h
  have hS : va_S A s.heap s.heap [] := va_S.rf
  have hL0 : ∀ b, b ∈ L → b ∈ L := fun b h => h
  have hO : ∀ b, b ∈ L → b ≠ a0 → f b = f b := fun b _ _ => rfl
  refine lv_aload_n hx hb d_Log_init_0 rfl (lv_at hl 0 rfl) ?_
  refine W.objInit hx hb hown (hall _ m_669) (hall _ m_665) (hall _ m_666) rfl (by rw [hml]; exact hl.1) rfl d_Log_init_1 (Nat.le_of_ble_eq_true rfl) (Nat.le_of_ble_eq_true rfl) ?_
  refine W.eq (g2 := F0 m 4 ls []) rfl ?_
  refine lv_aload_n hx hb d_Log_init_4 rfl (lv_at hl 0 rfl) ?_
  refine lv_bipush (v := 60) hx hb d_Log_init_5 (by decide) ?_
  refine pp_newI (N' := 60) hx hb (hall _ m_670) hN hLA hK hP hS hA (by decide) (by decide) (by decide) (Nat.le_of_ble_eq_true rfl) (Nat.le_of_ble_eq_true rfl) d_Log_init_7 (fun q0 f H hq hAq off hf_q0 hP hS => ?_)
  have hN := pNd hN hq
  have hLA := pLA hLA hAq
  have hf_a0 := (off a0 (fun e => hq (e ▸ hm_a0))).trans hf_a0
  have hO := pOn hO hL0 hq off
  have hL0 := pL0 (q := q0) hL0
  have hne_q0 : q0 ≠ a0 := fun e => hq (e ▸ hm_a0)
  have hm_a0 := pIn (q := q0) hm_a0
  have hm_q0 := pIs (L) q0
  refine pp_putF (ci := 1) (v := .ref q0) (ty := (.array .int)) (fs' := [.ref q0, .null, .null, .null, .null, .int 0, .int 0]) (C := R_Log) (T := F_Log) (N := 7) hx hb hall i_Log t_Log t_Log_ok n_Log hown hN hLA hK hP hS hm_a0 hf_a0 rfl 0 (by decide) (hall _ m_33) (fun _ h9 => h9) rfl hin rfl (by decide +kernel) rfl rfl (Nat.le_of_ble_eq_true rfl) rfl d_Log_init_9 (fun f H locs off hf_a0 hP hS => ?_)
  have hf_q0 := (off q0 hne_q0).trans hf_q0
  have hO := pOp hO off
  refine lv_aload_n hx hb d_Log_init_12 rfl (lv_at hl 0 rfl) ?_
  refine lv_bipush (v := 60) hx hb d_Log_init_13 (by decide) ?_
  refine pp_newI (N' := 60) hx hb (hall _ m_670) hN hLA hK hP hS hA (by decide) (by decide) (by decide) (Nat.le_of_ble_eq_true rfl) (Nat.le_of_ble_eq_true rfl) d_Log_init_15 (fun q1 f H hq hAq off hf_q1 hP hS => ?_)
  have hN := pNd hN hq
  have hLA := pLA hLA hAq
  have hf_a0 := (off a0 (fun e => hq (e ▸ hm_a0))).trans hf_a0
  have hf_q0 := (off q0 (fun e => hq (e ▸ hm_q0))).trans hf_q0
  have hO := pOn hO hL0 hq off
  have hL0 := pL0 (q := q1) hL0
  have hne_q1 : q1 ≠ a0 := fun e => hq (e ▸ hm_a0)
  have hm_a0 := pIn (q := q1) hm_a0
  have hm_q0 := pIn (q := q1) hm_q0
  have hm_q1 := pIs (L ++ [q0]) q1
  refine pp_putF (ci := 1) (v := .ref q1) (ty := (.array .int)) (fs' := [.ref q0, .ref q1, .null, .null, .null, .int 0, .int 0]) (C := R_Log) (T := F_Log) (N := 7) hx hb hall i_Log t_Log t_Log_ok n_Log hown hN hLA hK hP hS hm_a0 hf_a0 rfl 1 (by decide) (hall _ m_73) (fun _ h9 => h9) rfl hin rfl (by decide +kernel) rfl rfl (Nat.le_of_ble_eq_true rfl) rfl d_Log_init_17 (fun f H locs off hf_a0 hP hS => ?_)
  have hf_q0 := (off q0 hne_q0).trans hf_q0
  have hf_q1 := (off q1 hne_q1).trans hf_q1
  have hO := pOp hO off
  refine lv_aload_n hx hb d_Log_init_20 rfl (lv_at hl 0 rfl) ?_
  refine lv_bipush (v := 60) hx hb d_Log_init_21 (by decide) ?_
  refine pp_newI (N' := 60) hx hb (hall _ m_670) hN hLA hK hP hS hA (by decide) (by decide) (by decide) (Nat.le_of_ble_eq_true rfl) (Nat.le_of_ble_eq_true rfl) d_Log_init_23 (fun q2 f H hq hAq off hf_q2 hP hS => ?_)
  have hN := pNd hN hq
  have hLA := pLA hLA hAq
  have hf_a0 := (off a0 (fun e => hq (e ▸ hm_a0))).trans hf_a0
  have hf_q0 := (off q0 (fun e => hq (e ▸ hm_q0))).trans hf_q0
  have hf_q1 := (off q1 (fun e => hq (e ▸ hm_q1))).trans hf_q1
  have hO := pOn hO hL0 hq off
  have hL0 := pL0 (q := q2) hL0
  have hne_q2 : q2 ≠ a0 := fun e => hq (e ▸ hm_a0)
  have hm_a0 := pIn (q := q2) hm_a0
  have hm_q0 := pIn (q := q2) hm_q0
  have hm_q1 := pIn (q := q2) hm_q1
  have hm_q2 := pIs (L ++ [q0] ++ [q1]) q2
  refine pp_putF (ci := 1) (v := .ref q2) (ty := (.array .int)) (fs' := [.ref q0, .ref q1, .ref q2, .null, .null, .int 0, .int 0]) (C := R_Log) (T := F_Log) (N := 7) hx hb hall i_Log t_Log t_Log_ok n_Log hown hN hLA hK hP hS hm_a0 hf_a0 rfl 2 (by decide) (hall _ m_88) (fun _ h9 => h9) rfl hin rfl (by decide +kernel) rfl rfl (Nat.le_of_ble_eq_true rfl) rfl d_Log_init_25 (fun f H locs off hf_a0 hP hS => ?_)
  have hf_q0 := (off q0 hne_q0).trans hf_q0
  have hf_q1 := (off q1 hne_q1).trans hf_q1
  have hf_q2 := (off q2 hne_q2).trans hf_q2
  have hO := pOp hO off
  refine lv_aload_n hx hb d_Log_init_28 rfl (lv_at hl 0 rfl) ?_
  refine lv_bipush (v := 60) hx hb d_Log_init_29 (by decide) ?_
  refine pp_newI (N' := 60) hx hb (hall _ m_670) hN hLA hK hP hS hA (by decide) (by decide) (by decide) (Nat.le_of_ble_eq_true rfl) (Nat.le_of_ble_eq_true rfl) d_Log_init_31 (fun q3 f H hq hAq off hf_q3 hP hS => ?_)
  have hN := pNd hN hq
  have hLA := pLA hLA hAq
  have hf_a0 := (off a0 (fun e => hq (e ▸ hm_a0))).trans hf_a0
  have hf_q0 := (off q0 (fun e => hq (e ▸ hm_q0))).trans hf_q0
  have hf_q1 := (off q1 (fun e => hq (e ▸ hm_q1))).trans hf_q1
  have hf_q2 := (off q2 (fun e => hq (e ▸ hm_q2))).trans hf_q2
  have hO := pOn hO hL0 hq off
  have hL0 := pL0 (q := q3) hL0
  have hne_q3 : q3 ≠ a0 := fun e => hq (e ▸ hm_a0)
  have hm_a0 := pIn (q := q3) hm_a0
  have hm_q0 := pIn (q := q3) hm_q0
  have hm_q1 := pIn (q := q3) hm_q1
  have hm_q2 := pIn (q := q3) hm_q2
  have hm_q3 := pIs (L ++ [q0] ++ [q1] ++ [q2]) q3
  refine pp_putF (ci := 1) (v := .ref q3) (ty := (.array .int)) (fs' := [.ref q0, .ref q1, .ref q2, .ref q3, .null, .int 0, .int 0]) (C := R_Log) (T := F_Log) (N := 7) hx hb hall i_Log t_Log t_Log_ok n_Log hown hN hLA hK hP hS hm_a0 hf_a0 rfl 3 (by decide) (hall _ m_89) (fun _ h9 => h9) rfl hin rfl (by decide +kernel) rfl rfl (Nat.le_of_ble_eq_true rfl) rfl d_Log_init_33 (fun f H locs off hf_a0 hP hS => ?_)
  have hf_q0 := (off q0 hne_q0).trans hf_q0
  have hf_q1 := (off q1 hne_q1).trans hf_q1
  have hf_q2 := (off q2 hne_q2).trans hf_q2
  have hf_q3 := (off q3 hne_q3).trans hf_q3
  have hO := pOp hO off
  refine lv_aload_n hx hb d_Log_init_36 rfl (lv_at hl 0 rfl) ?_
  refine lv_bipush (v := 60) hx hb d_Log_init_37 (by decide) ?_
  refine pp_newI (N' := 60) hx hb (hall _ m_670) hN hLA hK hP hS hA (by decide) (by decide) (by decide) (Nat.le_of_ble_eq_true rfl) (Nat.le_of_ble_eq_true rfl) d_Log_init_39 (fun q4 f H hq hAq off hf_q4 hP hS => ?_)
  have hN := pNd hN hq
  have hLA := pLA hLA hAq
  have hf_a0 := (off a0 (fun e => hq (e ▸ hm_a0))).trans hf_a0
  have hf_q0 := (off q0 (fun e => hq (e ▸ hm_q0))).trans hf_q0
  have hf_q1 := (off q1 (fun e => hq (e ▸ hm_q1))).trans hf_q1
  have hf_q2 := (off q2 (fun e => hq (e ▸ hm_q2))).trans hf_q2
  have hf_q3 := (off q3 (fun e => hq (e ▸ hm_q3))).trans hf_q3
  have hO := pOn hO hL0 hq off
  have hL0 := pL0 (q := q4) hL0
  have hne_q4 : q4 ≠ a0 := fun e => hq (e ▸ hm_a0)
  have hm_a0 := pIn (q := q4) hm_a0
  have hm_q0 := pIn (q := q4) hm_q0
  have hm_q1 := pIn (q := q4) hm_q1
  have hm_q2 := pIn (q := q4) hm_q2
  have hm_q3 := pIn (q := q4) hm_q3
  have hm_q4 := pIs (L ++ [q0] ++ [q1] ++ [q2] ++ [q3]) q4
  refine pp_putF (ci := 1) (v := .ref q4) (ty := (.array .int)) (fs' := [.ref q0, .ref q1, .ref q2, .ref q3, .ref q4, .int 0, .int 0]) (C := R_Log) (T := F_Log) (N := 7) hx hb hall i_Log t_Log t_Log_ok n_Log hown hN hLA hK hP hS hm_a0 hf_a0 rfl 4 (by decide) (hall _ m_74) (fun _ h9 => h9) rfl hin rfl (by decide +kernel) rfl rfl (Nat.le_of_ble_eq_true rfl) rfl d_Log_init_41 (fun f H locs off hf_a0 hP hS => ?_)
  have hf_q0 := (off q0 hne_q0).trans hf_q0
  have hf_q1 := (off q1 hne_q1).trans hf_q1
  have hf_q2 := (off q2 hne_q2).trans hf_q2
  have hf_q3 := (off q3 hne_q3).trans hf_q3
  have hf_q4 := (off q4 hne_q4).trans hf_q4
  have hO := pOp hO off
  exact pp_vret hx hb hr hlk hK hP hS hLA ⟨q0, q1, q2, q3, q4, by simp, hN, hO, hf_a0, hf_q0, hf_q1, hf_q2, hf_q3, hf_q4⟩ d_Log_init_44
abbrev b_fill : ByteArray := prog_9_method_103_code
def y_fill : MethodName := ⟨"java/util/Arrays", "fill", "([II)V"⟩
def w_fill : List Cond := .code y_fill b_fill 4 none :: w_all
theorem d_fill_0 : decode b_fill 0 = .ok (.iconst 0, 1) := by decide +kernel
theorem d_fill_1 : decode b_fill 1 = .ok (.istore_n 2, 1) := by decide +kernel
theorem d_fill_2 : decode b_fill 2 = .ok (.aload_n 0, 1) := by decide +kernel
theorem d_fill_3 : decode b_fill 3 = .ok (.arraylength, 1) := by decide +kernel
theorem d_fill_4 : decode b_fill 4 = .ok (.istore_n 3, 1) := by decide +kernel
theorem d_fill_5 : decode b_fill 5 = .ok (.iload_n 2, 1) := by decide +kernel
theorem d_fill_6 : decode b_fill 6 = .ok (.iload_n 3, 1) := by decide +kernel
theorem d_fill_7 : decode b_fill 7 = .ok (.if_icmp .ge 13, 3) := by decide +kernel
theorem d_fill_10 : decode b_fill 10 = .ok (.aload_n 0, 1) := by decide +kernel
theorem d_fill_11 : decode b_fill 11 = .ok (.iload_n 2, 1) := by decide +kernel
theorem d_fill_12 : decode b_fill 12 = .ok (.iload_n 1, 1) := by decide +kernel
theorem d_fill_13 : decode b_fill 13 = .ok (.iastore, 1) := by decide +kernel
theorem d_fill_14 : decode b_fill 14 = .ok (.iinc 2 1, 3) := by decide +kernel
theorem d_fill_17 : decode b_fill 17 = .ok (.goto (-12), 3) := by decide +kernel
theorem d_fill_20 : decode b_fill 20 = .ok (.return_, 1) := by decide +kernel
section
variable {p : Program} {l : Launch} {e : Env} {Rm : Room} {s : State} {m : MethodId} {args : Array Value} {below : List Frame} {meth : Method} {c : Code} {g : Sg} {A : Nat → Prop} {L : List Nat} {f0 : Nat → va_E} {a0 n : Nat} {v : Int32} {w : Nat → Int32}
set_option maxHeartbeats 8000000 in
theorem fill_loop (hx : p.tables.exec = Jvm.exec) (hb : c.code = b_fill) (hr : meth.sig.returnType = none) (hlk : meth.locks = false) (hK : wK2 g s) (hN : L.Nodup) (hLA : ∀ z, z ∈ L → A z) (hm : a0 ∈ L) (hn : n < 2 ^ 31) : ∀ (k i : Nat) (f : Nat → va_E) (H : Heap) (locs : List Loc) (ls : Array Slot), i + k = n → va_P g.1 classes (va_pl L f) H → va_S A s.heap H locs → f a0 = .inl (g.cI, n, .inl (fun j => if j < i then v else w j)) → (∀ b, b ≠ a0 → f b = f0 b) → lv_has ls 4 [(0, .ref a0), (1, .int v), (2, .int (nI i)), (3, .int (nI n))] →
    W p l e Rm s m args below meth c H locs 0 0 (MQ below (Qn g A (fun u => u.1 = L ∧ (∀ b, b ≠ a0 → u.2 b = f0 b) ∧ u.2 a0 = .inl (g.cI, n, .inl (fun j => if j < n then v else w j)))) args s 0 0 A) (F0 m 5 ls []) := by
  intro k
  induction k with
  | zero =>
    intro i f H locs ls hik hP hS hf hO hl
    have hi : i = n := by omega
    subst hi
    refine lv_iload_n hx hb d_fill_5 rfl (lv_at hl 2 rfl) ?_
    refine lv_iload_n hx hb d_fill_6 rfl (lv_at hl 3 rfl) ?_
    refine lv_icmp_ge hx hb d_fill_7 rfl (fun _ => ?_) (fun hc => absurd (nI_le (Nat.le_refl _) hn) hc)
    exact pp_vret hx hb hr hlk hK hP hS hLA ⟨rfl, hO, hf⟩ d_fill_20
  | succ k ih =>
    intro i f H locs ls hik hP hS hf hO hl
    have hi : i < n := by omega
    refine lv_iload_n hx hb d_fill_5 rfl (lv_at hl 2 rfl) ?_
    refine lv_iload_n hx hb d_fill_6 rfl (lv_at hl 3 rfl) ?_
    refine lv_icmp_ge hx hb d_fill_7 rfl (fun hc => absurd hc (nI_ge hi hn)) (fun _ => ?_)
    refine lv_aload_n hx hb d_fill_10 rfl (lv_at hl 0 rfl) ?_
    refine lv_iload_n hx hb d_fill_11 rfl (lv_at hl 2 rfl) ?_
    refine lv_iload_n hx hb d_fill_12 rfl (lv_at hl 1 rfl) ?_
    refine pp_iast hx hb hN hLA hK hP hS hm hf (vp_in_nI hi hn) d_fill_13 (fun f' H locs off hf hP hS => ?_)
    refine lv_iinc (k := 2) (v := nI (i + 1)) (lv' := [(2, .int (nI (i + 1))), (0, .ref a0), (1, .int v), (3, .int (nI n))]) hx hb d_fill_14 hl rfl (by rw [show Int32.ofInt 1 = (1 : Int32) from by decide]; exact nI_1 i) (Nat.le_of_ble_eq_true rfl) rfl (fun ls hl => ?_)
    refine lv_goto hx hb d_fill_17 rfl ?_
    refine ih (i + 1) f' H locs ls (by omega) hP hS ?_ (fun b hb => (off b hb).trans (hO b hb)) (lv_sub hl [1, 2, 0, 3] rfl)
    rw [hf, nI_clamp (by omega)]
    congr 4
    funext j
    unfold upd
    by_cases h1 : j = i
    · subst h1; rw [if_pos rfl, if_pos (by omega)]
    · rw [if_neg h1]
      show (if j < i then v else w j) = _
      by_cases h2 : j < i
      · rw [if_pos h2, if_pos (by omega)]
      · rw [if_neg h2, if_neg (by omega)]
end
set_option maxHeartbeats 8000000 in
set_option maxRecDepth 100000 in
theorem c_fill (l : Launch) {g : Sg} {L : List Nat} {f : Nat → va_E} {a0 n : Nat} {v : Int32} {w : Nat → Int32} (hN : L.Nodup) (hm : a0 ∈ L) (hf : f a0 = .inl (g.cI, n, .inl w)) (hn : n < 2 ^ 31) : Ctn l g y_fill w_fill 0 0 0 0 [.ref a0, .int v] L f (fun u => u.1 = L ∧ (∀ b, b ≠ a0 → u.2 b = f b) ∧ u.2 a0 = .inl (g.cI, n, .inl (fun j => if j < n then v else w j))) := by
  intro sz
  refine Met.ofW (cc := b_fill) (maxL := 4) (ret := none) (by decide) rfl ?_
  intro p e s m args below meth c s₁ B hml hv
  obtain ⟨rfl, hsz, hP, hK⟩ := hv
  subst hsz
  have hx := B.exec
  have hb := B.bytes
  have hr := B.returns
  have hlk := B.notSynchronized
  have hl := lv_entry ([.ref a0, .int v]) (n := 4) (Nat.le_of_ble_eq_true rfl)
  rw [lg_entry_eq]
  generalize (lg_sl ([.ref a0, .int v]) ++ List.replicate (4 - (lg_sl ([.ref a0, .int v])).length) Slot.unset).toArray = ls at hl ⊢
  have hl : lv_has ls 4 [(0, .ref a0), (1, .int v)] := hl
  generalize hAe : An L s.heap.size = A
  have hLA : ∀ q, q ∈ L → A q := fun q h => by rw [← hAe]; exact Or.inl h
  have hS : va_S A s.heap s.heap [] := va_S.rf
  refine lv_iconst (v := 0) hx hb d_fill_0 (by decide) ?_
  refine lv_istore_n (lv' := [(2, .int 0), (0, .ref a0), (1, .int v)]) hx hb d_fill_1 rfl hl (Nat.le_of_ble_eq_true rfl) rfl (fun ls hl => ?_)
  refine lv_aload_n hx hb d_fill_2 rfl (lv_at hl 1 rfl) ?_
  refine pp_alen hx hb hK hP hm hf d_fill_3 ?_
  refine lv_istore_n (lv' := [(3, .int (nI n)), (2, .int 0), (0, .ref a0), (1, .int v)]) hx hb d_fill_4 rfl hl (Nat.le_of_ble_eq_true rfl) rfl (fun ls hl => ?_)
  exact fill_loop hx hb hr hlk hK hN hLA hm hn n 0 f s.heap [] ls (by omega) hP hS (by rw [hf]; rfl) (fun b _ => rfl) (lv_sub hl [2, 3, 1, 0] rfl)

abbrev b_Txn_init : ByteArray := prog_5_method_1_code
def y_Txn_init : MethodName := ⟨"StampedStore$Transaction", "<init>", "()V"⟩
def w_Txn_init : List Cond := .code y_Txn_init b_Txn_init 1 none :: w_all
theorem d_Txn_init_0 : decode b_Txn_init 0 = .ok (.aload_n 0, 1) := by decide +kernel
theorem d_Txn_init_1 : decode b_Txn_init 1 = .ok (.invokespecial 3, 3) := by decide +kernel
theorem d_Txn_init_4 : decode b_Txn_init 4 = .ok (.aload_n 0, 1) := by decide +kernel
theorem d_Txn_init_5 : decode b_Txn_init 5 = .ok (.bipush 8, 2) := by decide +kernel
theorem d_Txn_init_7 : decode b_Txn_init 7 = .ok (.newarray .boolean, 2) := by decide +kernel
theorem d_Txn_init_9 : decode b_Txn_init 9 = .ok (.putfield 9, 3) := by decide +kernel
theorem d_Txn_init_12 : decode b_Txn_init 12 = .ok (.aload_n 0, 1) := by decide +kernel
theorem d_Txn_init_13 : decode b_Txn_init 13 = .ok (.bipush 8, 2) := by decide +kernel
theorem d_Txn_init_15 : decode b_Txn_init 15 = .ok (.newarray .int, 2) := by decide +kernel
theorem d_Txn_init_17 : decode b_Txn_init 17 = .ok (.putfield 15, 3) := by decide +kernel
theorem d_Txn_init_20 : decode b_Txn_init 20 = .ok (.aload_n 0, 1) := by decide +kernel
theorem d_Txn_init_21 : decode b_Txn_init 21 = .ok (.iconst 2, 1) := by decide +kernel
theorem d_Txn_init_22 : decode b_Txn_init 22 = .ok (.newarray .int, 2) := by decide +kernel
theorem d_Txn_init_24 : decode b_Txn_init 24 = .ok (.putfield 19, 3) := by decide +kernel
theorem d_Txn_init_27 : decode b_Txn_init 27 = .ok (.aload_n 0, 1) := by decide +kernel
theorem d_Txn_init_28 : decode b_Txn_init 28 = .ok (.iconst 0, 1) := by decide +kernel
theorem d_Txn_init_29 : decode b_Txn_init 29 = .ok (.putfield 22, 3) := by decide +kernel
theorem d_Txn_init_32 : decode b_Txn_init 32 = .ok (.aload_n 0, 1) := by decide +kernel
theorem d_Txn_init_33 : decode b_Txn_init 33 = .ok (.getfield 15, 3) := by decide +kernel
theorem d_Txn_init_36 : decode b_Txn_init 36 = .ok (.iconst (-1), 1) := by decide +kernel
theorem d_Txn_init_37 : decode b_Txn_init 37 = .ok (.invokestatic 26, 3) := by decide +kernel
theorem d_Txn_init_40 : decode b_Txn_init 40 = .ok (.aload_n 0, 1) := by decide +kernel
theorem d_Txn_init_41 : decode b_Txn_init 41 = .ok (.getfield 19, 3) := by decide +kernel
theorem d_Txn_init_44 : decode b_Txn_init 44 = .ok (.iconst (-1), 1) := by decide +kernel
theorem d_Txn_init_45 : decode b_Txn_init 45 = .ok (.invokestatic 26, 3) := by decide +kernel
theorem d_Txn_init_48 : decode b_Txn_init 48 = .ok (.return_, 1) := by decide +kernel
set_option maxHeartbeats 8000000 in
set_option maxRecDepth 100000 in
theorem c_Txn_init (l : Launch) {g : Sg} {L : List Nat} {f : Nat → va_E} {a0 : Nat} (hN : L.Nodup) (hm_a0 : a0 ∈ L) (hf_a0 : f a0 = .inr (3, [.null, .null, .null, .int 0, .int 0])) : Ctn l g y_Txn_init w_Txn_init 1 23 3 18 [.ref a0] L f (fun u => ∃ q0 q1 q2 : Nat, u.1 = L ++ [q0, q1, q2] ∧ u.1.Nodup ∧ (∀ b, b ∈ L → b ≠ a0 → u.2 b = f b) ∧ u.2 a0 = .inr (3, [.ref q0, .ref q1, .ref q2, .int (0 : Int32), .int 0]) ∧ u.2 q0 = .inl (g.cZ, 8, .inl (fun _ => 0)) ∧ u.2 q1 = .inl (g.cI, 8, .inl (fun j => if j < 8 then (-1) else 0)) ∧ u.2 q2 = .inl (g.cI, 2, .inl (fun j => if j < 2 then (-1) else 0))) := by
  intro sz
  refine Met.ofW (cc := b_Txn_init) (maxL := 1) (ret := none) (by decide) rfl ?_
  intro p e s m args below meth c s₁ B hml hv
  obtain ⟨rfl, hsz, hP, hK⟩ := hv
  subst hsz
  have hts := atoms_spec (ws := w_Txn_init) B.pre
  have hall : ∀ w ∈ w_all, w.before _ s = true := fun w hw => hts w (List.mem_cons_of_mem _ hw)
  have hown : s.vm.findClass R_Txn = some m.cls := findClass_of_methodNamed B.named
  have hx := B.exec
  have hb := B.bytes
  have hr := B.returns
  have hlk := B.notSynchronized
  have hin : meth.name = "<init>" := (name_of_methodNamed B.named B.method).1
  have hl := lv_entry ([.ref a0]) (n := 1) (Nat.le_of_ble_eq_true rfl)
  rw [lg_entry_eq]
  generalize (lg_sl ([.ref a0]) ++ List.replicate (1 - (lg_sl ([.ref a0])).length) Slot.unset).toArray = ls at hl ⊢
  have hl : lv_has ls 1 [(0, .ref a0)] := hl
  generalize hAe : An L s.heap.size = A
  have hA : ∀ q, s.heap.size ≤ q → A q := fun q h => by rw [← hAe]; exact Or.inr h
  have hLA : ∀ q, q ∈ L → A q := fun q h => by rw [← hAe]; exact Or.inl h
  have hS : va_S A s.heap s.heap [] := va_S.rf
  have hL0 : ∀ b, b ∈ L → b ∈ L := fun b h => h
  have hO : ∀ b, b ∈ L → b ≠ a0 → f b = f b := fun b _ _ => rfl
  refine lv_aload_n hx hb d_Txn_init_0 rfl (lv_at hl 0 rfl) ?_
  refine W.objInit hx hb hown (hall _ m_673) (hall _ m_665) (hall _ m_666) rfl (by rw [hml]; exact hl.1) rfl d_Txn_init_1 (Nat.le_of_ble_eq_true rfl) (Nat.le_of_ble_eq_true rfl) ?_
  refine W.eq (g2 := F0 m 4 ls []) rfl ?_
  refine lv_aload_n hx hb d_Txn_init_4 rfl (lv_at hl 0 rfl) ?_
  refine lv_bipush (v := 8) hx hb d_Txn_init_5 (by decide) ?_
  refine pp_newZ (N' := 8) hx hb (hall _ m_674) hN hLA hK hP hS hA (by decide) (by decide) (by decide) (Nat.le_of_ble_eq_true rfl) (Nat.le_of_ble_eq_true rfl) d_Txn_init_7 (fun q0 f H hq hAq off hf_q0 hP hS => ?_)
  have nL_q0 : q0 ∉ L := fun h => hq (hL0 _ h)
  have hN := pNd hN hq
  have hLA := pLA hLA hAq
  have hf_a0 := (off a0 (fun e => hq (e ▸ hm_a0))).trans hf_a0
  have hO := pOn hO hL0 hq off
  have hL0 := pL0 (q := q0) hL0
  have hne_q0 : q0 ≠ a0 := fun e => hq (e ▸ hm_a0)
  have hm_a0 := pIn (q := q0) hm_a0
  have hm_q0 := pIs (L) q0
  refine pp_putF (ci := 3) (v := .ref q0) (ty := (.array .boolean)) (fs' := [.ref q0, .null, .null, .int 0, .int 0]) (C := R_Txn) (T := F_Txn) (N := 5) hx hb hall i_Txn t_Txn t_Txn_ok n_Txn hown hN hLA hK hP hS hm_a0 hf_a0 rfl 0 (by decide) (hall _ m_210) (fun _ h9 => h9) rfl hin rfl (by decide +kernel) rfl rfl (Nat.le_of_ble_eq_true rfl) rfl d_Txn_init_9 (fun f H locs off hf_a0 hP hS => ?_)
  have hf_q0 := (off q0 hne_q0).trans hf_q0
  have hO := pOp hO off
  refine lv_aload_n hx hb d_Txn_init_12 rfl (lv_at hl 0 rfl) ?_
  refine lv_bipush (v := 8) hx hb d_Txn_init_13 (by decide) ?_
  refine pp_newI (N' := 8) hx hb (hall _ m_670) hN hLA hK hP hS hA (by decide) (by decide) (by decide) (Nat.le_of_ble_eq_true rfl) (Nat.le_of_ble_eq_true rfl) d_Txn_init_15 (fun q1 f H hq hAq off hf_q1 hP hS => ?_)
  have nL_q1 : q1 ∉ L := fun h => hq (hL0 _ h)
  have nq_q0_q1 : q0 ≠ q1 := fun e => hq (e ▸ hm_q0)
  have hN := pNd hN hq
  have hLA := pLA hLA hAq
  have hf_a0 := (off a0 (fun e => hq (e ▸ hm_a0))).trans hf_a0
  have hf_q0 := (off q0 (fun e => hq (e ▸ hm_q0))).trans hf_q0
  have hO := pOn hO hL0 hq off
  have hL0 := pL0 (q := q1) hL0
  have hne_q1 : q1 ≠ a0 := fun e => hq (e ▸ hm_a0)
  have hm_a0 := pIn (q := q1) hm_a0
  have hm_q0 := pIn (q := q1) hm_q0
  have hm_q1 := pIs (L ++ [q0]) q1
  refine pp_putF (ci := 3) (v := .ref q1) (ty := (.array .int)) (fs' := [.ref q0, .ref q1, .null, .int 0, .int 0]) (C := R_Txn) (T := F_Txn) (N := 5) hx hb hall i_Txn t_Txn t_Txn_ok n_Txn hown hN hLA hK hP hS hm_a0 hf_a0 rfl 1 (by decide) (hall _ m_162) (fun _ h9 => h9) rfl hin rfl (by decide +kernel) rfl rfl (Nat.le_of_ble_eq_true rfl) rfl d_Txn_init_17 (fun f H locs off hf_a0 hP hS => ?_)
  have hf_q0 := (off q0 hne_q0).trans hf_q0
  have hf_q1 := (off q1 hne_q1).trans hf_q1
  have hO := pOp hO off
  refine lv_aload_n hx hb d_Txn_init_20 rfl (lv_at hl 0 rfl) ?_
  refine lv_iconst (v := 2) hx hb d_Txn_init_21 (by decide) ?_
  refine pp_newI (N' := 2) hx hb (hall _ m_670) hN hLA hK hP hS hA (by decide) (by decide) (by decide) (Nat.le_of_ble_eq_true rfl) (Nat.le_of_ble_eq_true rfl) d_Txn_init_22 (fun q2 f H hq hAq off hf_q2 hP hS => ?_)
  have nL_q2 : q2 ∉ L := fun h => hq (hL0 _ h)
  have nq_q0_q2 : q0 ≠ q2 := fun e => hq (e ▸ hm_q0)
  have nq_q1_q2 : q1 ≠ q2 := fun e => hq (e ▸ hm_q1)
  have hN := pNd hN hq
  have hLA := pLA hLA hAq
  have hf_a0 := (off a0 (fun e => hq (e ▸ hm_a0))).trans hf_a0
  have hf_q0 := (off q0 (fun e => hq (e ▸ hm_q0))).trans hf_q0
  have hf_q1 := (off q1 (fun e => hq (e ▸ hm_q1))).trans hf_q1
  have hO := pOn hO hL0 hq off
  have hL0 := pL0 (q := q2) hL0
  have hne_q2 : q2 ≠ a0 := fun e => hq (e ▸ hm_a0)
  have hm_a0 := pIn (q := q2) hm_a0
  have hm_q0 := pIn (q := q2) hm_q0
  have hm_q1 := pIn (q := q2) hm_q1
  have hm_q2 := pIs (L ++ [q0] ++ [q1]) q2
  refine pp_putF (ci := 3) (v := .ref q2) (ty := (.array .int)) (fs' := [.ref q0, .ref q1, .ref q2, .int 0, .int 0]) (C := R_Txn) (T := F_Txn) (N := 5) hx hb hall i_Txn t_Txn t_Txn_ok n_Txn hown hN hLA hK hP hS hm_a0 hf_a0 rfl 2 (by decide) (hall _ m_170) (fun _ h9 => h9) rfl hin rfl (by decide +kernel) rfl rfl (Nat.le_of_ble_eq_true rfl) rfl d_Txn_init_24 (fun f H locs off hf_a0 hP hS => ?_)
  have hf_q0 := (off q0 hne_q0).trans hf_q0
  have hf_q1 := (off q1 hne_q1).trans hf_q1
  have hf_q2 := (off q2 hne_q2).trans hf_q2
  have hO := pOp hO off
  refine lv_aload_n hx hb d_Txn_init_27 rfl (lv_at hl 0 rfl) ?_
  refine lv_iconst (v := 0) hx hb d_Txn_init_28 (by decide) ?_
  refine pp_put (ci := 3) (v := .int (0 : Int32)) (ty := .int) (fs' := [.ref q0, .ref q1, .ref q2, .int (0 : Int32), .int 0]) (C := R_Txn) (T := F_Txn) (N := 5) hx hb hall i_Txn t_Txn t_Txn_ok n_Txn hown hN hLA hK hP hS hm_a0 hf_a0 rfl 3 (by decide) (hall _ m_675) (fun _ h9 => h9) rfl (by decide +kernel) rfl rfl (Nat.le_of_ble_eq_true rfl) rfl d_Txn_init_29 (fun f H locs off hf_a0 hP hS => ?_)
  have hf_q0 := (off q0 hne_q0).trans hf_q0
  have hf_q1 := (off q1 hne_q1).trans hf_q1
  have hf_q2 := (off q2 hne_q2).trans hf_q2
  have hO := pOp hO off
  refine lv_aload_n hx hb d_Txn_init_32 rfl (lv_at hl 0 rfl) ?_
  refine pp_get (C := R_Txn) (T := F_Txn) (N := 5) (ci := 3) hx hb hall i_Txn hown hK hP hm_a0 hf_a0 rfl 1 (by decide) (hall _ m_162) (fun _ h9 => h9) rfl d_Txn_init_33 ?_
  refine lv_iconst (v := (-1)) hx hb d_Txn_init_36 (by decide) ?_
  refine pp_stat (As := [.ref q1, .int (-1)]) (rest := []) ⟨hx, hb, hml, hown, hall⟩ (c_fill l hN hm_q1 hf_q1 (by decide)) ⟨callB_of 2 hall (gC m_671) rfl rfl rfl (hall _ m_676) (hall _ m_677) (by decide +kernel) ⟨Nat.le_of_ble_eq_true rfl, Nat.le_of_ble_eq_true rfl⟩, (hall _ m_678)⟩ hK hP hS hA hLA rfl hl.1 rfl (Nat.le_of_ble_eq_true rfl) d_Txn_init_37 ⟨Nat.le_of_ble_eq_true rfl, Nat.le_of_ble_eq_true rfl⟩ (fun L' f H locs hpost hLA hP hS => ?_)
  obtain ⟨rfl, off, hf_q1⟩ := hpost
  have hf_a0 := (off a0 (by first | exact hne_q1.symm | exact nq_a0_q1 | exact nq_q1_a0.symm)).trans hf_a0
  have hf_q0 := (off q0 (by first | exact hne_q1.symm | exact nq_q0_q1 | exact nq_q1_q0.symm)).trans hf_q0
  have hf_q2 := (off q2 (by first | exact hne_q1.symm | exact nq_q2_q1 | exact nq_q1_q2.symm)).trans hf_q2
  have hO := fun b hb hn => (off b (fun e => nL_q1 (e ▸ hb))).trans (hO b hb hn)
  refine lv_aload_n hx hb d_Txn_init_40 rfl (lv_at hl 0 rfl) ?_
  refine pp_get (C := R_Txn) (T := F_Txn) (N := 5) (ci := 3) hx hb hall i_Txn hown hK hP hm_a0 hf_a0 rfl 2 (by decide) (hall _ m_170) (fun _ h9 => h9) rfl d_Txn_init_41 ?_
  refine lv_iconst (v := (-1)) hx hb d_Txn_init_44 (by decide) ?_
  refine pp_stat (As := [.ref q2, .int (-1)]) (rest := []) ⟨hx, hb, hml, hown, hall⟩ (c_fill l hN hm_q2 hf_q2 (by decide)) ⟨callB_of 2 hall (gC m_671) rfl rfl rfl (hall _ m_676) (hall _ m_677) (by decide +kernel) ⟨Nat.le_of_ble_eq_true rfl, Nat.le_of_ble_eq_true rfl⟩, (hall _ m_678)⟩ hK hP hS hA hLA rfl hl.1 rfl (Nat.le_of_ble_eq_true rfl) d_Txn_init_45 ⟨Nat.le_of_ble_eq_true rfl, Nat.le_of_ble_eq_true rfl⟩ (fun L' f H locs hpost hLA hP hS => ?_)
  obtain ⟨rfl, off, hf_q2⟩ := hpost
  have hf_a0 := (off a0 (by first | exact hne_q2.symm | exact nq_a0_q2 | exact nq_q2_a0.symm)).trans hf_a0
  have hf_q0 := (off q0 (by first | exact hne_q2.symm | exact nq_q0_q2 | exact nq_q2_q0.symm)).trans hf_q0
  have hf_q1 := (off q1 (by first | exact hne_q2.symm | exact nq_q1_q2 | exact nq_q2_q1.symm)).trans hf_q1
  have hO := fun b hb hn => (off b (fun e => nL_q2 (e ▸ hb))).trans (hO b hb hn)
  exact pp_vret hx hb hr hlk hK hP hS hLA ⟨q0, q1, q2, by simp, hN, hO, hf_a0, hf_q0, hf_q1, hf_q2⟩ d_Txn_init_48
abbrev b_Node_init : ByteArray := prog_4_method_1_code
def y_Node_init : MethodName := ⟨"StampedStore$Node", "<init>", "(ILStampedStore$Clock;)V"⟩
def w_Node_init : List Cond := .code y_Node_init b_Node_init 3 none :: w_all
theorem d_Node_init_0 : decode b_Node_init 0 = .ok (.aload_n 0, 1) := by decide +kernel
theorem d_Node_init_1 : decode b_Node_init 1 = .ok (.invokespecial 3, 3) := by decide +kernel
theorem d_Node_init_4 : decode b_Node_init 4 = .ok (.aload_n 0, 1) := by decide +kernel
theorem d_Node_init_5 : decode b_Node_init 5 = .ok (.new 9, 3) := by decide +kernel
theorem d_Node_init_8 : decode b_Node_init 8 = .ok (.dup, 1) := by decide +kernel
theorem d_Node_init_9 : decode b_Node_init 9 = .ok (.invokespecial 11, 3) := by decide +kernel
theorem d_Node_init_12 : decode b_Node_init 12 = .ok (.putfield 12, 3) := by decide +kernel
theorem d_Node_init_15 : decode b_Node_init 15 = .ok (.aload_n 0, 1) := by decide +kernel
theorem d_Node_init_16 : decode b_Node_init 16 = .ok (.iconst 1, 1) := by decide +kernel
theorem d_Node_init_17 : decode b_Node_init 17 = .ok (.putfield 18, 3) := by decide +kernel
theorem d_Node_init_20 : decode b_Node_init 20 = .ok (.aload_n 0, 1) := by decide +kernel
theorem d_Node_init_21 : decode b_Node_init 21 = .ok (.iconst (-1), 1) := by decide +kernel
theorem d_Node_init_22 : decode b_Node_init 22 = .ok (.putfield 22, 3) := by decide +kernel
theorem d_Node_init_25 : decode b_Node_init 25 = .ok (.aload_n 0, 1) := by decide +kernel
theorem d_Node_init_26 : decode b_Node_init 26 = .ok (.iload_n 1, 1) := by decide +kernel
theorem d_Node_init_27 : decode b_Node_init 27 = .ok (.putfield 26, 3) := by decide +kernel
theorem d_Node_init_30 : decode b_Node_init 30 = .ok (.aload_n 0, 1) := by decide +kernel
theorem d_Node_init_31 : decode b_Node_init 31 = .ok (.aload_n 2, 1) := by decide +kernel
theorem d_Node_init_32 : decode b_Node_init 32 = .ok (.putfield 29, 3) := by decide +kernel
theorem d_Node_init_35 : decode b_Node_init 35 = .ok (.return_, 1) := by decide +kernel
set_option maxHeartbeats 8000000 in
set_option maxRecDepth 100000 in
theorem c_Node_init (l : Launch) {g : Sg} {L : List Nat} {f : Nat → va_E} {a0 a2 : Nat} {x1 : Int32} (hN : L.Nodup) (hm_a0 : a0 ∈ L) (hf_a0 : f a0 = .inr (2, [.int 0, .null, .null, .int 0, .int 0, .int 0, .int 0, .int 0, .int 0, .int 0])) : Ctn l g y_Node_init w_Node_init 2 32 6 307 [.ref a0, .int x1, .ref a2] L f (fun u => ∃ q0 r0 r1 r2 r3 r4 : Nat, u.1 = L ++ [q0, r0, r1, r2, r3, r4] ∧ u.1.Nodup ∧ (∀ b, b ∈ L → b ≠ a0 → u.2 b = f b) ∧ u.2 a0 = .inr (2, [.int x1, .ref a2, .ref q0, .int (1 : Int32), .int 0, .int 0, .int 0, .int 0, .int (-1 : Int32), .int 0]) ∧ u.2 q0 = .inr (1, [.ref r0, .ref r1, .ref r2, .ref r3, .ref r4, .int 0, .int 0]) ∧ u.2 r0 = .inl (g.cI, 60, .inl (fun _ => 0)) ∧ u.2 r1 = .inl (g.cI, 60, .inl (fun _ => 0)) ∧ u.2 r2 = .inl (g.cI, 60, .inl (fun _ => 0)) ∧ u.2 r3 = .inl (g.cI, 60, .inl (fun _ => 0)) ∧ u.2 r4 = .inl (g.cI, 60, .inl (fun _ => 0))) := by
  intro sz
  refine Met.ofW (cc := b_Node_init) (maxL := 3) (ret := none) (by decide) rfl ?_
  intro p e s m args below meth c s₁ B hml hv
  obtain ⟨rfl, hsz, hP, hK⟩ := hv
  subst hsz
  have hts := atoms_spec (ws := w_Node_init) B.pre
  have hall : ∀ w ∈ w_all, w.before _ s = true := fun w hw => hts w (List.mem_cons_of_mem _ hw)
  have hown : s.vm.findClass R_Node = some m.cls := findClass_of_methodNamed B.named
  have hx := B.exec
  have hb := B.bytes
  have hr := B.returns
  have hlk := B.notSynchronized
  have hin : meth.name = "<init>" := (name_of_methodNamed B.named B.method).1
  have hl := lv_entry ([.ref a0, .int x1, .ref a2]) (n := 3) (Nat.le_of_ble_eq_true rfl)
  rw [lg_entry_eq]
  generalize (lg_sl ([.ref a0, .int x1, .ref a2]) ++ List.replicate (3 - (lg_sl ([.ref a0, .int x1, .ref a2])).length) Slot.unset).toArray = ls at hl ⊢
  have hl : lv_has ls 3 [(0, .ref a0), (1, .int x1), (2, .ref a2)] := hl
  generalize hAe : An L s.heap.size = A
  have hA : ∀ q, s.heap.size ≤ q → A q := fun q h => by rw [← hAe]; exact Or.inr h
  have hLA : ∀ q, q ∈ L → A q := fun q h => by rw [← hAe]; exact Or.inl h
  have hS : va_S A s.heap s.heap [] := va_S.rf
  have hL0 : ∀ b, b ∈ L → b ∈ L := fun b h => h
  have hO : ∀ b, b ∈ L → b ≠ a0 → f b = f b := fun b _ _ => rfl
  refine lv_aload_n hx hb d_Node_init_0 rfl (lv_at hl 0 rfl) ?_
  refine W.objInit hx hb hown (hall _ m_680) (hall _ m_665) (hall _ m_666) rfl (by rw [hml]; exact hl.1) rfl d_Node_init_1 (Nat.le_of_ble_eq_true rfl) (Nat.le_of_ble_eq_true rfl) ?_
  refine W.eq (g2 := F0 m 4 ls []) rfl ?_
  refine lv_aload_n hx hb d_Node_init_4 rfl (lv_at hl 0 rfl) ?_
  refine pp_new (ci := 1) (fs := [.null, .null, .null, .null, .null, .int 0, .int 0]) (C := R_Log) (T := F_Log) (N := 7) hx hb hall i_Log t_Log t_Log_ok hown (hall _ m_681) (hall _ m_682) (hall _ m_38) hN hLA hK hP hS hA rfl (fun j hj => by rcases (show j = 0 ∨ j = 1 ∨ j = 2 ∨ j = 3 ∨ j = 4 ∨ j = 5 ∨ j = 6 by omega) with rfl | rfl | rfl | rfl | rfl | rfl | rfl <;> rfl) (Nat.le_of_ble_eq_true rfl) (Nat.le_of_ble_eq_true rfl) d_Node_init_5 (fun q0 f H hq hAq off hf_q0 hP hS => ?_)
  have nL_q0 : q0 ∉ L := fun h => hq (hL0 _ h)
  have hN := pNd hN hq
  have hLA := pLA hLA hAq
  have hf_a0 := (off a0 (fun e => hq (e ▸ hm_a0))).trans hf_a0
  have hO := pOn hO hL0 hq off
  have hL0 := pL0 (q := q0) hL0
  have hne_q0 : q0 ≠ a0 := fun e => hq (e ▸ hm_a0)
  have hm_a0 := pIn (q := q0) hm_a0
  have hm_q0 := pIs (L) q0
  refine lv_dup hx hb d_Node_init_8 rfl ?_
  refine pp_initN (As := []) (rest := [.ref q0, .ref a0]) ⟨hx, hb, hml, hown, hall⟩ (c_Log_init l hN hm_q0 hf_q0) ⟨va_cnB 0 hall (gC m_668) rfl rfl rfl hK.2.1 (hall _ m_38) (by decide +kernel) ⟨Nat.le_of_ble_eq_true rfl, Nat.le_of_ble_eq_true rfl⟩, rfl, (hall _ m_683)⟩ hK hP hS hA hLA rfl hl.1 rfl (Nat.le_of_ble_eq_true rfl) d_Node_init_9 ⟨Nat.le_of_ble_eq_true rfl, Nat.le_of_ble_eq_true rfl⟩ (fun L' f H locs hpost hLA hP hS => ?_)
  obtain ⟨r0, r1, r2, r3, r4, hL', hN, off, hf_q0, hf_r0, hf_r1, hf_r2, hf_r3, hf_r4⟩ := hpost
  have hL' : L' = (L ++ [q0]) ++ [r0, r1, r2, r3, r4] := hL'
  subst hL'
  have hf_a0 := (off a0 hm_a0 hne_q0.symm).trans hf_a0
  have hO := fun b hb hn => (off b (hL0 b hb) (fun e => nL_q0 (e ▸ hb))).trans (hO b hb hn)
  have hd := (List.nodup_append.mp hN).2.2
  have hne_r0 : r0 ≠ a0 := fun e => hd a0 hm_a0 r0 (by simp) e.symm
  have hne_r1 : r1 ≠ a0 := fun e => hd a0 hm_a0 r1 (by simp) e.symm
  have hne_r2 : r2 ≠ a0 := fun e => hd a0 hm_a0 r2 (by simp) e.symm
  have hne_r3 : r3 ≠ a0 := fun e => hd a0 hm_a0 r3 (by simp) e.symm
  have hne_r4 : r4 ≠ a0 := fun e => hd a0 hm_a0 r4 (by simp) e.symm
  have hm_a0 := List.mem_append_left [r0, r1, r2, r3, r4] hm_a0
  refine pp_putF (ci := 2) (v := .ref q0) (ty := (.object "StampedStore$Log")) (fs' := [.int 0, .null, .ref q0, .int 0, .int 0, .int 0, .int 0, .int 0, .int 0, .int 0]) (C := R_Node) (T := F_Node) (N := 10) hx hb hall i_Node t_Node t_Node_ok n_Node hown hN hLA hK hP hS hm_a0 hf_a0 rfl 2 (by decide) (hall _ m_40) (fun _ h9 => h9) rfl hin rfl (by decide +kernel) rfl rfl (Nat.le_of_ble_eq_true rfl) rfl d_Node_init_12 (fun f H locs off hf_a0 hP hS => ?_)
  have hf_q0 := (off q0 hne_q0).trans hf_q0
  have hf_r0 := (off r0 hne_r0).trans hf_r0
  have hf_r1 := (off r1 hne_r1).trans hf_r1
  have hf_r2 := (off r2 hne_r2).trans hf_r2
  have hf_r3 := (off r3 hne_r3).trans hf_r3
  have hf_r4 := (off r4 hne_r4).trans hf_r4
  have hO := pOp hO off
  refine lv_aload_n hx hb d_Node_init_15 rfl (lv_at hl 0 rfl) ?_
  refine lv_iconst (v := 1) hx hb d_Node_init_16 (by decide) ?_
  refine pp_put (ci := 2) (v := .int (1 : Int32)) (ty := .boolean) (fs' := [.int 0, .null, .ref q0, .int (1 : Int32), .int 0, .int 0, .int 0, .int 0, .int 0, .int 0]) (C := R_Node) (T := F_Node) (N := 10) hx hb hall i_Node t_Node t_Node_ok n_Node hown hN hLA hK hP hS hm_a0 hf_a0 rfl 3 (by decide) (hall _ m_684) (fun _ h9 => h9) rfl (by decide +kernel) rfl rfl (Nat.le_of_ble_eq_true rfl) rfl d_Node_init_17 (fun f H locs off hf_a0 hP hS => ?_)
  have hf_q0 := (off q0 hne_q0).trans hf_q0
  have hf_r0 := (off r0 hne_r0).trans hf_r0
  have hf_r1 := (off r1 hne_r1).trans hf_r1
  have hf_r2 := (off r2 hne_r2).trans hf_r2
  have hf_r3 := (off r3 hne_r3).trans hf_r3
  have hf_r4 := (off r4 hne_r4).trans hf_r4
  have hO := pOp hO off
  refine lv_aload_n hx hb d_Node_init_20 rfl (lv_at hl 0 rfl) ?_
  refine lv_iconst (v := (-1)) hx hb d_Node_init_21 (by decide) ?_
  refine pp_put (ci := 2) (v := .int (-1 : Int32)) (ty := .int) (fs' := [.int 0, .null, .ref q0, .int (1 : Int32), .int 0, .int 0, .int 0, .int 0, .int (-1 : Int32), .int 0]) (C := R_Node) (T := F_Node) (N := 10) hx hb hall i_Node t_Node t_Node_ok n_Node hown hN hLA hK hP hS hm_a0 hf_a0 rfl 8 (by decide) (hall _ m_44) (fun _ h9 => h9) rfl (by decide +kernel) rfl rfl (Nat.le_of_ble_eq_true rfl) rfl d_Node_init_22 (fun f H locs off hf_a0 hP hS => ?_)
  have hf_q0 := (off q0 hne_q0).trans hf_q0
  have hf_r0 := (off r0 hne_r0).trans hf_r0
  have hf_r1 := (off r1 hne_r1).trans hf_r1
  have hf_r2 := (off r2 hne_r2).trans hf_r2
  have hf_r3 := (off r3 hne_r3).trans hf_r3
  have hf_r4 := (off r4 hne_r4).trans hf_r4
  have hO := pOp hO off
  refine lv_aload_n hx hb d_Node_init_25 rfl (lv_at hl 0 rfl) ?_
  refine lv_iload_n hx hb d_Node_init_26 rfl (lv_at hl 1 rfl) ?_
  refine pp_putF (ci := 2) (v := .int x1) (ty := .int) (fs' := [.int x1, .null, .ref q0, .int (1 : Int32), .int 0, .int 0, .int 0, .int 0, .int (-1 : Int32), .int 0]) (C := R_Node) (T := F_Node) (N := 10) hx hb hall i_Node t_Node t_Node_ok n_Node hown hN hLA hK hP hS hm_a0 hf_a0 rfl 0 (by decide) (hall _ m_16) (fun _ h9 => h9) rfl hin rfl (by decide +kernel) rfl rfl (Nat.le_of_ble_eq_true rfl) rfl d_Node_init_27 (fun f H locs off hf_a0 hP hS => ?_)
  have hf_q0 := (off q0 hne_q0).trans hf_q0
  have hf_r0 := (off r0 hne_r0).trans hf_r0
  have hf_r1 := (off r1 hne_r1).trans hf_r1
  have hf_r2 := (off r2 hne_r2).trans hf_r2
  have hf_r3 := (off r3 hne_r3).trans hf_r3
  have hf_r4 := (off r4 hne_r4).trans hf_r4
  have hO := pOp hO off
  refine lv_aload_n hx hb d_Node_init_30 rfl (lv_at hl 0 rfl) ?_
  refine lv_aload_n hx hb d_Node_init_31 rfl (lv_at hl 2 rfl) ?_
  refine pp_putF (ci := 2) (v := .ref a2) (ty := (.object "StampedStore$Clock")) (fs' := [.int x1, .ref a2, .ref q0, .int (1 : Int32), .int 0, .int 0, .int 0, .int 0, .int (-1 : Int32), .int 0]) (C := R_Node) (T := F_Node) (N := 10) hx hb hall i_Node t_Node t_Node_ok n_Node hown hN hLA hK hP hS hm_a0 hf_a0 rfl 1 (by decide) (hall _ m_27) (fun _ h9 => h9) rfl hin rfl (by decide +kernel) rfl rfl (Nat.le_of_ble_eq_true rfl) rfl d_Node_init_32 (fun f H locs off hf_a0 hP hS => ?_)
  have hf_q0 := (off q0 hne_q0).trans hf_q0
  have hf_r0 := (off r0 hne_r0).trans hf_r0
  have hf_r1 := (off r1 hne_r1).trans hf_r1
  have hf_r2 := (off r2 hne_r2).trans hf_r2
  have hf_r3 := (off r3 hne_r3).trans hf_r3
  have hf_r4 := (off r4 hne_r4).trans hf_r4
  have hO := pOp hO off
  exact pp_vret hx hb hr hlk hK hP hS hLA ⟨q0, r0, r1, r2, r3, r4, by simp, hN, hO, hf_a0, hf_q0, hf_r0, hf_r1, hf_r2, hf_r3, hf_r4⟩ d_Node_init_35
