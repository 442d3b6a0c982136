theorem m_663 : (Jvm.Cond.code ({ cls := "StampedStore$Clock", name := "<init>", desc := "(I)V" } : Jvm.MethodName) prog_2_method_1_code (2 : Nat) (Option.none : Option Jvm.ClassFile.FieldType)) ∈ w_all := gB (List.mem_append_right _ (List.mem_append_left _ (List.mem_of_getElem? (l := tables_1_1) (i := 25) rfl))) rfl
theorem m_664 : (Jvm.Cond.methodLink "StampedStore$Clock" (1 : Nat) ({ cls := "java/lang/Object", name := "<init>", desc := "()V" } : Jvm.MethodName)) ∈ w_all := gB (List.mem_append_right _ (List.mem_append_left _ (List.mem_of_getElem? (l := tables_1_1) (i := 26) rfl))) rfl
theorem m_665 : (Jvm.Cond.instanceMethod ({ cls := "java/lang/Object", name := "<init>", desc := "()V" } : Jvm.MethodName)) ∈ w_all := gB (List.mem_append_right _ (List.mem_append_left _ (List.mem_of_getElem? (l := tables_1_1) (i := 15) rfl))) rfl
theorem m_666 : (Jvm.Cond.code ({ cls := "java/lang/Object", name := "<init>", desc := "()V" } : Jvm.MethodName) object_method_1_code (1 : Nat) (Option.none : Option Jvm.ClassFile.FieldType)) ∈ w_all := gB (List.mem_append_right _ (List.mem_append_left _ (List.mem_of_getElem? (l := tables_1_1) (i := 16) rfl))) rfl
theorem m_667 : (Jvm.Cond.fieldLink "StampedStore$Clock" (7 : Nat) "StampedStore$Clock" "eps" "I") ∈ w_all := gB (List.mem_append_right _ (List.mem_append_left _ (List.mem_of_getElem? (l := tables_1_1) (i := 27) rfl))) rfl
theorem m_668 : (Jvm.Cond.code ({ cls := "StampedStore$Log", name := "<init>", desc := "()V" } : Jvm.MethodName) prog_3_method_1_code (1 : Nat) (Option.none : Option Jvm.ClassFile.FieldType)) ∈ w_all := gB (List.mem_append_right _ (List.mem_append_left _ (List.mem_of_getElem? (l := tables_1_1) (i := 46) rfl))) rfl
theorem m_669 : (Jvm.Cond.methodLink "StampedStore$Log" (3 : Nat) ({ cls := "java/lang/Object", name := "<init>", desc := "()V" } : Jvm.MethodName)) ∈ w_all := gB (List.mem_append_right _ (List.mem_append_left _ (List.mem_of_getElem? (l := tables_1_1) (i := 47) rfl))) rfl
theorem m_670 : (Jvm.Cond.arrayClass Jvm.ClassFile.FieldType.int) ∈ w_all := gB (List.mem_append_right _ (List.mem_append_left _ (List.mem_of_getElem? (l := tables_1_1) (i := 76) rfl))) rfl
section
theorem pLA {A : Nat → Prop} {L : List Nat} {q : Nat} (h : ∀ z, z ∈ L → A z) (hq : A q) : ∀ z, z ∈ L ++ [q] → A z := fun z hz => (List.mem_append.mp hz).elim (h z) (fun e => by rw [List.mem_singleton.mp e]; exact hq)
theorem pIn {L : List Nat} {x q : Nat} (h : x ∈ L) : x ∈ L ++ [q] := List.mem_append_left _ h
theorem pIs (L : List Nat) (q : Nat) : q ∈ L ++ [q] := List.mem_append_right _ (List.mem_singleton.mpr rfl)
theorem pL0 {L0 L : List Nat} {q : Nat} (h : ∀ b, b ∈ L0 → b ∈ L) : ∀ b, b ∈ L0 → b ∈ L ++ [q] := fun b hb => pIn (h b hb)
theorem pOn {f0 f f' : Nat → va_E} {L0 L : List Nat} {a q : Nat} (h : ∀ b, b ∈ L0 → b ≠ a → f b = f0 b) (hL : ∀ b, b ∈ L0 → b ∈ L) (hq : q ∉ L) (off : Off f f' q) : ∀ b, b ∈ L0 → b ≠ a → f' b = f0 b := fun b hb hn => (off b (fun e => hq (e ▸ hL b hb))).trans (h b hb hn)
theorem pOp {f0 f f' : Nat → va_E} {L0 : List Nat} {a : Nat} (h : ∀ b, b ∈ L0 → b ≠ a → f b = f0 b) (off : Off f f' a) : ∀ b, b ∈ L0 → b ≠ a → f' b = f0 b := fun b hb hn => (off b hn).trans (h b hb hn)
end

abbrev b_Clock_init : ByteArray := prog_2_method_1_code
def y_Clock_init : MethodName := ⟨"StampedStore$Clock", "<init>", "(I)V"⟩
def w_Clock_init : List Cond := .code y_Clock_init b_Clock_init 2 none :: w_all
theorem d_Clock_init_0 : decode b_Clock_init 0 = .ok (.aload_n 0, 1) := by decide +kernel
theorem d_Clock_init_1 : decode b_Clock_init 1 = .ok (.invokespecial 1, 3) := by decide +kernel
theorem d_Clock_init_4 : decode b_Clock_init 4 = .ok (.aload_n 0, 1) := by decide +kernel
theorem d_Clock_init_5 : decode b_Clock_init 5 = .ok (.iload_n 1, 1) := by decide +kernel
theorem d_Clock_init_6 : decode b_Clock_init 6 = .ok (.putfield 7, 3) := by decide +kernel
theorem d_Clock_init_9 : decode b_Clock_init 9 = .ok (.return_, 1) := by decide +kernel
set_option maxHeartbeats 8000000 in
set_option maxRecDepth 100000 in
theorem c_Clock_init (l : Launch) {g : Sg} {L : List Nat} {f : Nat → va_E} {a0 : Nat} {x1 : Int32} (hN : L.Nodup) (hm_a0 : a0 ∈ L) (hf_a0 : f a0 = .inr (0, [.int 0, .int 0])) : Ctn l g y_Clock_init w_Clock_init 1 12 0 0 [.ref a0, .int x1] L f (fun u => u.1 = L ∧ (∀ b, b ∈ L → b ≠ a0 → u.2 b = f b) ∧ u.2 a0 = .inr (0, [.int x1, .int 0])) := by
  intro sz
  refine Met.ofW (cc := b_Clock_init) (maxL := 2) (ret := none) (by decide) rfl ?_
  intro p e s m args below meth c s₁ B hml hv
  obtain ⟨rfl, hsz, hP, hK⟩ := hv
  subst hsz
  have hts := atoms_spec (ws := w_Clock_init) B.pre
  have hall : ∀ w ∈ w_all, w.before _ s = true := fun w hw => hts w (List.mem_cons_of_mem _ hw)
  have hown : s.vm.findClass R_Clock = some m.cls := findClass_of_methodNamed B.named
  have hx := B.exec
  have hb := B.bytes
  have hr := B.returns
  have hlk := B.notSynchronized
  have hin : meth.name = "<init>" := (name_of_methodNamed B.named B.method).1
  have hl := lv_entry ([.ref a0, .int x1]) (n := 2) (Nat.le_of_ble_eq_true rfl)
  rw [lg_entry_eq]
  generalize (lg_sl ([.ref a0, .int x1]) ++ List.replicate (2 - (lg_sl ([.ref a0, .int x1])).length) Slot.unset).toArray = ls at hl ⊢
  have hl : lv_has ls 2 [(0, .ref a0), (1, .int x1)] := hl
  generalize hAe : An L s.heap.size = A
  have hA : ∀ q, s.heap.size ≤ q → A q := fun q h => by rw [← hAe]; exact Or.inr h
  have hLA : ∀ q, q ∈ L → A q := fun q h => by rw [← hAe]; exact Or.inl h
  have hS : va_S A s.heap s.heap [] := va_S.rf
  have hL0 : ∀ b, b ∈ L → b ∈ L := fun b h => h
  have hO : ∀ b, b ∈ L → b ≠ a0 → f b = f b := fun b _ _ => rfl
  refine lv_aload_n hx hb d_Clock_init_0 rfl (lv_at hl 0 rfl) ?_
  refine W.objInit hx hb hown (hall _ m_664) (hall _ m_665) (hall _ m_666) rfl (by rw [hml]; exact hl.1) rfl d_Clock_init_1 (Nat.le_of_ble_eq_true rfl) (Nat.le_of_ble_eq_true rfl) ?_
  refine W.eq (g2 := F0 m 4 ls []) rfl ?_
  refine lv_aload_n hx hb d_Clock_init_4 rfl (lv_at hl 0 rfl) ?_
  refine lv_iload_n hx hb d_Clock_init_5 rfl (lv_at hl 1 rfl) ?_
  refine pp_putF (ci := 0) (v := .int x1) (ty := .int) (fs' := [.int x1, .int 0]) (C := R_Clock) (T := F_Clock) (N := 2) hx hb hall i_Clock t_Clock t_Clock_ok n_Clock hown hN hLA hK hP hS hm_a0 hf_a0 rfl 0 (by decide) (hall _ m_667) (fun _ h9 => h9) rfl hin rfl (by decide +kernel) rfl rfl (Nat.le_of_ble_eq_true rfl) rfl d_Clock_init_6 (fun f H locs off hf_a0 hP hS => ?_)
  have hO := pOp hO off
  exact pp_vret hx hb hr hlk hK hP hS ⟨rfl, hO, hf_a0⟩ d_Clock_init_9
abbrev b_Log_init : ByteArray := prog_3_method_1_code
def y_Log_init : MethodName := ⟨"StampedStore$Log", "<init>", "()V"⟩
def w_Log_init : List Cond := .code y_Log_init b_Log_init 1 none :: w_all
theorem d_Log_init_0 : decode b_Log_init 0 = .ok (.aload_n 0, 1) := by decide +kernel
theorem d_Log_init_1 : decode b_Log_init 1 = .ok (.invokespecial 3, 3) := by decide +kernel
theorem d_Log_init_4 : decode b_Log_init 4 = .ok (.aload_n 0, 1) := by decide +kernel
theorem d_Log_init_5 : decode b_Log_init 5 = .ok (.bipush 60, 2) := by decide +kernel
theorem d_Log_init_7 : decode b_Log_init 7 = .ok (.newarray .int, 2) := by decide +kernel
theorem d_Log_init_9 : decode b_Log_init 9 = .ok (.putfield 9, 3) := by decide +kernel
theorem d_Log_init_12 : decode b_Log_init 12 = .ok (.aload_n 0, 1) := by decide +kernel
theorem d_Log_init_13 : decode b_Log_init 13 = .ok (.bipush 60, 2) := by decide +kernel
theorem d_Log_init_15 : decode b_Log_init 15 = .ok (.newarray .int, 2) := by decide +kernel
theorem d_Log_init_17 : decode b_Log_init 17 = .ok (.putfield 15, 3) := by decide +kernel
theorem d_Log_init_20 : decode b_Log_init 20 = .ok (.aload_n 0, 1) := by decide +kernel
theorem d_Log_init_21 : decode b_Log_init 21 = .ok (.bipush 60, 2) := by decide +kernel
theorem d_Log_init_23 : decode b_Log_init 23 = .ok (.newarray .int, 2) := by decide +kernel
theorem d_Log_init_25 : decode b_Log_init 25 = .ok (.putfield 18, 3) := by decide +kernel
theorem d_Log_init_28 : decode b_Log_init 28 = .ok (.aload_n 0, 1) := by decide +kernel
theorem d_Log_init_29 : decode b_Log_init 29 = .ok (.bipush 60, 2) := by decide +kernel
theorem d_Log_init_31 : decode b_Log_init 31 = .ok (.newarray .int, 2) := by decide +kernel
theorem d_Log_init_33 : decode b_Log_init 33 = .ok (.putfield 21, 3) := by decide +kernel
theorem d_Log_init_36 : decode b_Log_init 36 = .ok (.aload_n 0, 1) := by decide +kernel
theorem d_Log_init_37 : decode b_Log_init 37 = .ok (.bipush 60, 2) := by decide +kernel
theorem d_Log_init_39 : decode b_Log_init 39 = .ok (.newarray .int, 2) := by decide +kernel
theorem d_Log_init_41 : decode b_Log_init 41 = .ok (.putfield 24, 3) := by decide +kernel
theorem d_Log_init_44 : decode b_Log_init 44 = .ok (.return_, 1) := by decide +kernel
set_option maxHeartbeats 8000000 in
set_option maxRecDepth 100000 in
theorem c_Log_init (l : Launch) {g : Sg} {L : List Nat} {f : Nat → va_E} {a0 : Nat} (hN : L.Nodup) (hm_a0 : a0 ∈ L) (hf_a0 : f a0 = .inr (1, [.null, .null, .null, .null, .null, .int 0, .int 0])) : Ctn l g y_Log_init w_Log_init 1 12 5 300 [.ref a0] L f (fun u => ∃ q0 q1 q2 q3 q4 : Nat, u.1 = L ++ [q0, q1, q2, q3, q4] ∧ u.1.Nodup ∧ (∀ b, b ∈ L → b ≠ a0 → u.2 b = f b) ∧ u.2 a0 = .inr (1, [.ref q0, .ref q1, .ref q2, .ref q3, .ref q4, .int 0, .int 0]) ∧ u.2 q0 = .inl (g.cI, 60, .inl (fun _ => 0)) ∧ u.2 q1 = .inl (g.cI, 60, .inl (fun _ => 0)) ∧ u.2 q2 = .inl (g.cI, 60, .inl (fun _ => 0)) ∧ u.2 q3 = .inl (g.cI, 60, .inl (fun _ => 0)) ∧ u.2 q4 = .inl (g.cI, 60, .inl (fun _ => 0))) := by
  intro sz
  refine Met.ofW (cc := b_Log_init) (maxL := 1) (ret := none) (by decide) rfl ?_
  intro p e s m args below meth c s₁ B hml hv
  obtain ⟨rfl, hsz, hP, hK⟩ := hv
  subst hsz
  have hts := atoms_spec (ws := w_Log_init) B.pre
  have hall : ∀ w ∈ w_all, w.before _ s = true := fun w hw => hts w (List.mem_cons_of_mem _ hw)
  have hown : s.vm.findClass R_Log = some m.cls := findClass_of_methodNamed B.named
  have hx := B.exec
  have hb := B.bytes
  have hr := B.returns
  have hlk := B.notSynchronized
  have hin : meth.name = "<init>" := (name_of_methodNamed B.named B.method).1
  have hl := lv_entry ([.ref a0]) (n := 1) (Nat.le_of_ble_eq_true rfl)
  rw [lg_entry_eq]
  generalize (lg_sl ([.ref a0]) ++ List.replicate (1 - (lg_sl ([.ref a0])).length) Slot.unset).toArray = ls at hl ⊢
  have hl : lv_has ls 1 [(0, .ref a0)] := hl
  generalize hAe : An L s.heap.size = A
  have hA : ∀ q, s.heap.size ≤ q → A q := fun q h => by rw [← hAe]; exact Or.inr h
  have hLA : ∀ q, q ∈ L → A q := fun q h => by rw [← hAe]; exact Or.inl h
  have hS : va_S A s.heap s.heap [] := va_S.rf
  have hL0 : ∀ b, b ∈ L → b ∈ L := fun b h => h
  have hO : ∀ b, b ∈ L → b ≠ a0 → f b = f b := fun b _ _ => rfl
  refine lv_aload_n hx hb d_Log_init_0 rfl (lv_at hl 0 rfl) ?_
  refine W.objInit hx hb hown (hall _ m_669) (hall _ m_665) (hall _ m_666) rfl (by rw [hml]; exact hl.1) rfl d_Log_init_1 (Nat.le_of_ble_eq_true rfl) (Nat.le_of_ble_eq_true rfl) ?_
  refine W.eq (g2 := F0 m 4 ls []) rfl ?_
  refine lv_aload_n hx hb d_Log_init_4 rfl (lv_at hl 0 rfl) ?_
  refine lv_bipush (v := 60) hx hb d_Log_init_5 (by decide) ?_
  refine pp_newI (N' := 60) hx hb (hall _ m_670) hN hLA hK hP hS hA (by decide) (by decide) (by decide) (Nat.le_of_ble_eq_true rfl) (Nat.le_of_ble_eq_true rfl) d_Log_init_7 (fun q0 f H hq hAq off hf_q0 hP hS => ?_)
  have hN := pNd hN hq
  have hLA := pLA hLA hAq
  have hf_a0 := (off a0 (fun e => hq (e ▸ hm_a0))).trans hf_a0
  have hO := pOn hO hL0 hq off
  have hL0 := pL0 (q := q0) hL0
  have hne_q0 : q0 ≠ a0 := fun e => hq (e ▸ hm_a0)
  have hm_a0 := pIn (q := q0) hm_a0
  have hm_q0 := pIs (L) q0
  refine pp_putF (ci := 1) (v := .ref q0) (ty := (.array .int)) (fs' := [.ref q0, .null, .null, .null, .null, .int 0, .int 0]) (C := R_Log) (T := F_Log) (N := 7) hx hb hall i_Log t_Log t_Log_ok n_Log hown hN hLA hK hP hS hm_a0 hf_a0 rfl 0 (by decide) (hall _ m_33) (fun _ h9 => h9) rfl hin rfl (by decide +kernel) rfl rfl (Nat.le_of_ble_eq_true rfl) rfl d_Log_init_9 (fun f H locs off hf_a0 hP hS => ?_)
  have hf_q0 := (off q0 hne_q0).trans hf_q0
  have hO := pOp hO off
  refine lv_aload_n hx hb d_Log_init_12 rfl (lv_at hl 0 rfl) ?_
  refine lv_bipush (v := 60) hx hb d_Log_init_13 (by decide) ?_
  refine pp_newI (N' := 60) hx hb (hall _ m_670) hN hLA hK hP hS hA (by decide) (by decide) (by decide) (Nat.le_of_ble_eq_true rfl) (Nat.le_of_ble_eq_true rfl) d_Log_init_15 (fun q1 f H hq hAq off hf_q1 hP hS => ?_)
  have hN := pNd hN hq
  have hLA := pLA hLA hAq
  have hf_a0 := (off a0 (fun e => hq (e ▸ hm_a0))).trans hf_a0
  have hf_q0 := (off q0 (fun e => hq (e ▸ hm_q0))).trans hf_q0
  have hO := pOn hO hL0 hq off
  have hL0 := pL0 (q := q1) hL0
  have hne_q1 : q1 ≠ a0 := fun e => hq (e ▸ hm_a0)
  have hm_a0 := pIn (q := q1) hm_a0
  have hm_q0 := pIn (q := q1) hm_q0
  have hm_q1 := pIs (L ++ [q0]) q1
  refine pp_putF (ci := 1) (v := .ref q1) (ty := (.array .int)) (fs' := [.ref q0, .ref q1, .null, .null, .null, .int 0, .int 0]) (C := R_Log) (T := F_Log) (N := 7) hx hb hall i_Log t_Log t_Log_ok n_Log hown hN hLA hK hP hS hm_a0 hf_a0 rfl 1 (by decide) (hall _ m_73) (fun _ h9 => h9) rfl hin rfl (by decide +kernel) rfl rfl (Nat.le_of_ble_eq_true rfl) rfl d_Log_init_17 (fun f H locs off hf_a0 hP hS => ?_)
  have hf_q0 := (off q0 hne_q0).trans hf_q0
  have hf_q1 := (off q1 hne_q1).trans hf_q1
  have hO := pOp hO off
  refine lv_aload_n hx hb d_Log_init_20 rfl (lv_at hl 0 rfl) ?_
  refine lv_bipush (v := 60) hx hb d_Log_init_21 (by decide) ?_
  refine pp_newI (N' := 60) hx hb (hall _ m_670) hN hLA hK hP hS hA (by decide) (by decide) (by decide) (Nat.le_of_ble_eq_true rfl) (Nat.le_of_ble_eq_true rfl) d_Log_init_23 (fun q2 f H hq hAq off hf_q2 hP hS => ?_)
  have hN := pNd hN hq
  have hLA := pLA hLA hAq
  have hf_a0 := (off a0 (fun e => hq (e ▸ hm_a0))).trans hf_a0
  have hf_q0 := (off q0 (fun e => hq (e ▸ hm_q0))).trans hf_q0
  have hf_q1 := (off q1 (fun e => hq (e ▸ hm_q1))).trans hf_q1
  have hO := pOn hO hL0 hq off
  have hL0 := pL0 (q := q2) hL0
  have hne_q2 : q2 ≠ a0 := fun e => hq (e ▸ hm_a0)
  have hm_a0 := pIn (q := q2) hm_a0
  have hm_q0 := pIn (q := q2) hm_q0
  have hm_q1 := pIn (q := q2) hm_q1
  have hm_q2 := pIs (L ++ [q0] ++ [q1]) q2
  refine pp_putF (ci := 1) (v := .ref q2) (ty := (.array .int)) (fs' := [.ref q0, .ref q1, .ref q2, .null, .null, .int 0, .int 0]) (C := R_Log) (T := F_Log) (N := 7) hx hb hall i_Log t_Log t_Log_ok n_Log hown hN hLA hK hP hS hm_a0 hf_a0 rfl 2 (by decide) (hall _ m_88) (fun _ h9 => h9) rfl hin rfl (by decide +kernel) rfl rfl (Nat.le_of_ble_eq_true rfl) rfl d_Log_init_25 (fun f H locs off hf_a0 hP hS => ?_)
  have hf_q0 := (off q0 hne_q0).trans hf_q0
  have hf_q1 := (off q1 hne_q1).trans hf_q1
  have hf_q2 := (off q2 hne_q2).trans hf_q2
  have hO := pOp hO off
  refine lv_aload_n hx hb d_Log_init_28 rfl (lv_at hl 0 rfl) ?_
  refine lv_bipush (v := 60) hx hb d_Log_init_29 (by decide) ?_
  refine pp_newI (N' := 60) hx hb (hall _ m_670) hN hLA hK hP hS hA (by decide) (by decide) (by decide) (Nat.le_of_ble_eq_true rfl) (Nat.le_of_ble_eq_true rfl) d_Log_init_31 (fun q3 f H hq hAq off hf_q3 hP hS => ?_)
  have hN := pNd hN hq
  have hLA := pLA hLA hAq
  have hf_a0 := (off a0 (fun e => hq (e ▸ hm_a0))).trans hf_a0
  have hf_q0 := (off q0 (fun e => hq (e ▸ hm_q0))).trans hf_q0
  have hf_q1 := (off q1 (fun e => hq (e ▸ hm_q1))).trans hf_q1
  have hf_q2 := (off q2 (fun e => hq (e ▸ hm_q2))).trans hf_q2
  have hO := pOn hO hL0 hq off
  have hL0 := pL0 (q := q3) hL0
  have hne_q3 : q3 ≠ a0 := fun e => hq (e ▸ hm_a0)
  have hm_a0 := pIn (q := q3) hm_a0
  have hm_q0 := pIn (q := q3) hm_q0
  have hm_q1 := pIn (q := q3) hm_q1
  have hm_q2 := pIn (q := q3) hm_q2
  have hm_q3 := pIs (L ++ [q0] ++ [q1] ++ [q2]) q3
  refine pp_putF (ci := 1) (v := .ref q3) (ty := (.array .int)) (fs' := [.ref q0, .ref q1, .ref q2, .ref q3, .null, .int 0, .int 0]) (C := R_Log) (T := F_Log) (N := 7) hx hb hall i_Log t_Log t_Log_ok n_Log hown hN hLA hK hP hS hm_a0 hf_a0 rfl 3 (by decide) (hall _ m_89) (fun _ h9 => h9) rfl hin rfl (by decide +kernel) rfl rfl (Nat.le_of_ble_eq_true rfl) rfl d_Log_init_33 (fun f H locs off hf_a0 hP hS => ?_)
  have hf_q0 := (off q0 hne_q0).trans hf_q0
  have hf_q1 := (off q1 hne_q1).trans hf_q1
  have hf_q2 := (off q2 hne_q2).trans hf_q2
  have hf_q3 := (off q3 hne_q3).trans hf_q3
  have hO := pOp hO off
  refine lv_aload_n hx hb d_Log_init_36 rfl (lv_at hl 0 rfl) ?_
  refine lv_bipush (v := 60) hx hb d_Log_init_37 (by decide) ?_
  refine pp_newI (N' := 60) hx hb (hall _ m_670) hN hLA hK hP hS hA (by decide) (by decide) (by decide) (Nat.le_of_ble_eq_true rfl) (Nat.le_of_ble_eq_true rfl) d_Log_init_39 (fun q4 f H hq hAq off hf_q4 hP hS => ?_)
  have hN := pNd hN hq
  have hLA := pLA hLA hAq
  have hf_a0 := (off a0 (fun e => hq (e ▸ hm_a0))).trans hf_a0
  have hf_q0 := (off q0 (fun e => hq (e ▸ hm_q0))).trans hf_q0
  have hf_q1 := (off q1 (fun e => hq (e ▸ hm_q1))).trans hf_q1
  have hf_q2 := (off q2 (fun e => hq (e ▸ hm_q2))).trans hf_q2
  have hf_q3 := (off q3 (fun e => hq (e ▸ hm_q3))).trans hf_q3
  have hO := pOn hO hL0 hq off
  have hL0 := pL0 (q := q4) hL0
  have hne_q4 : q4 ≠ a0 := fun e => hq (e ▸ hm_a0)
  have hm_a0 := pIn (q := q4) hm_a0
  have hm_q0 := pIn (q := q4) hm_q0
  have hm_q1 := pIn (q := q4) hm_q1
  have hm_q2 := pIn (q := q4) hm_q2
  have hm_q3 := pIn (q := q4) hm_q3
  have hm_q4 := pIs (L ++ [q0] ++ [q1] ++ [q2] ++ [q3]) q4
  refine pp_putF (ci := 1) (v := .ref q4) (ty := (.array .int)) (fs' := [.ref q0, .ref q1, .ref q2, .ref q3, .ref q4, .int 0, .int 0]) (C := R_Log) (T := F_Log) (N := 7) hx hb hall i_Log t_Log t_Log_ok n_Log hown hN hLA hK hP hS hm_a0 hf_a0 rfl 4 (by decide) (hall _ m_74) (fun _ h9 => h9) rfl hin rfl (by decide +kernel) rfl rfl (Nat.le_of_ble_eq_true rfl) rfl d_Log_init_41 (fun f H locs off hf_a0 hP hS => ?_)
  have hf_q0 := (off q0 hne_q0).trans hf_q0
  have hf_q1 := (off q1 hne_q1).trans hf_q1
  have hf_q2 := (off q2 hne_q2).trans hf_q2
  have hf_q3 := (off q3 hne_q3).trans hf_q3
  have hf_q4 := (off q4 hne_q4).trans hf_q4
  have hO := pOp hO off
  exact pp_vret hx hb hr hlk hK hP hS ⟨q0, q1, q2, q3, q4, by simp, hN, hO, hf_a0, hf_q0, hf_q1, hf_q2, hf_q3, hf_q4⟩ d_Log_init_44
