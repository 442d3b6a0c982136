theorem m_703 : (Jvm.Cond.instantiable "StampedStore" (4 : Nat)) ∈ w_all := gB (List.mem_append_right _ (List.mem_append_left _ (List.mem_of_getElem? (l := tables_1_1) (i := 10) rfl))) rfl
theorem m_704 : (Jvm.Cond.instantiable "StampedStoreModel" (23 : Nat)) ∈ w_all := gB (List.mem_append_right _ (List.mem_append_right _ (List.mem_append_right _ (List.mem_append_left _ (List.mem_of_getElem? (l := tables_1_3) (i := 21) rfl))))) rfl
theorem m_705 : (Jvm.Cond.methodLink "StampedStoreLaw" (9 : Nat) ({ cls := "StampedStoreLaw", name := "cell", desc := "([II)I" } : Jvm.MethodName)) ∈ w_all := gB (List.mem_append_right _ (List.mem_append_right _ (List.mem_append_right _ (List.mem_append_left _ (List.mem_of_getElem? (l := tables_1_3) (i := 17) rfl))))) rfl
theorem m_706 : (Jvm.Cond.static ({ cls := "StampedStoreLaw", name := "cell", desc := "([II)I" } : Jvm.MethodName)) ∈ w_all := gB (List.mem_append_right _ (List.mem_append_right _ (List.mem_append_right _ (List.mem_append_left _ (List.mem_of_getElem? (l := tables_1_3) (i := 18) rfl))))) rfl
theorem m_707 : (Jvm.Cond.initialized "StampedStoreLaw") ∈ w_all := gB (List.mem_append_right _ (List.mem_append_left _ (List.mem_of_getElem? (l := tables_1_1) (i := 0) rfl))) rfl
theorem m_708 : (Jvm.Cond.classLink "StampedStoreLaw" (7 : Nat) "StampedStore") ∈ w_all := gB (List.mem_append_right _ (List.mem_append_left _ (List.mem_of_getElem? (l := tables_1_1) (i := 9) rfl))) rfl
theorem m_709 : (Jvm.Cond.classLink "StampedStoreLaw" (18 : Nat) "StampedStoreModel") ∈ w_all := gB (List.mem_append_right _ (List.mem_append_right _ (List.mem_append_right _ (List.mem_append_left _ (List.mem_of_getElem? (l := tables_1_3) (i := 20) rfl))))) rfl
theorem m_710 : (Jvm.Cond.methodLink "StampedStoreLaw" (15 : Nat) ({ cls := "StampedStore", name := "<init>", desc := "(I)V" } : Jvm.MethodName)) ∈ w_all := gB (List.mem_append_right _ (List.mem_append_left _ (List.mem_of_getElem? (l := tables_1_1) (i := 11) rfl))) rfl
theorem m_711 : (Jvm.Cond.methodLink "StampedStoreLaw" (20 : Nat) ({ cls := "StampedStoreModel", name := "<init>", desc := "(I)V" } : Jvm.MethodName)) ∈ w_all := gB (List.mem_append_right _ (List.mem_append_right _ (List.mem_append_right _ (List.mem_append_left _ (List.mem_of_getElem? (l := tables_1_3) (i := 22) rfl))))) rfl
theorem m_712 : (Jvm.Cond.instanceMethod ({ cls := "StampedStore", name := "<init>", desc := "(I)V" } : Jvm.MethodName)) ∈ w_all := gB (List.mem_append_right _ (List.mem_append_left _ (List.mem_of_getElem? (l := tables_1_1) (i := 12) rfl))) rfl
theorem m_713 : (Jvm.Cond.instanceMethod ({ cls := "StampedStoreModel", name := "<init>", desc := "(I)V" } : Jvm.MethodName)) ∈ w_all := gB (List.mem_append_right _ (List.mem_append_right _ (List.mem_append_right _ (List.mem_append_left _ (List.mem_of_getElem? (l := tables_1_3) (i := 23) rfl))))) rfl
theorem lm_N : (Jvm.Cond.arrayOver (Jvm.ClassFile.FieldType.object "StampedStore$Node")) ∈ lw_tbl := List.mem_append_right _ (List.mem_append_left _ (List.mem_of_getElem? (l := tables_1_1) (i := 18) rfl))
theorem lm_T : (Jvm.Cond.arrayOver (Jvm.ClassFile.FieldType.object "StampedStore$Transaction")) ∈ lw_tbl := List.mem_append_right _ (List.mem_append_left _ (List.mem_of_getElem? (l := tables_1_1) (i := 20) rfl))
theorem lm_45 : (Jvm.Cond.methodLinkNest "StampedStore$Transaction" (45 : Nat) ({ cls := "StampedStore", name := "groupOfKey", desc := "(I)I" } : Jvm.MethodName) "StampedStore") ∈ lw_tbl := List.mem_append_right _ (List.mem_append_right _ (List.mem_append_left _ (List.mem_of_getElem? (l := tables_1_2) (i := 131) rfl)))
theorem lm_11 : (Jvm.Cond.methodLinkNest "StampedStore$Node" (11 : Nat) ({ cls := "StampedStore$Log", name := "<init>", desc := "()V" } : Jvm.MethodName) "StampedStore") ∈ lw_tbl := List.mem_append_right _ (List.mem_append_left _ (List.mem_of_getElem? (l := tables_1_1) (i := 44) rfl))
section
variable {p : Program} {l : Launch} {e : Env} {s : State} {m : MethodId} {below : List Frame} {meth : Method} {c : Code}
theorem k_arr {ty : FieldType} {A : Array Value} (h : (Cond.arrayClass ty).before A s = true) : ∃ cA : ClassId, ArrOfT s cA ty ∧ s.vm.findClass ("[" ++ ty.toString) = some cA := by
  obtain ⟨cA, k, comp, h1, h2, h3⟩ := Cond.arrayClass_spec h
  exact ⟨cA, fun n z => ⟨fun _ h => (by cases h), k, h2, comp, h3⟩, h1⟩
theorem k_over {C : String} {A : Array Value} (h : (Cond.arrayOver (.object C)).before A s = true) : ∃ cA : ClassId, ArrOfT s cA (.object C) ∧ va_RA s cA (.object C) := by
  obtain ⟨comp, cA, k, h1, h2, h3, h4, h5⟩ := Cond.arrayOver_spec h
  exact ⟨cA, fun n z => ⟨fun _ h => (by cases h), k, h3, comp, h4⟩, k, comp, h3, h4, h1, h5⟩
theorem start_K {A : Array Value} (hts : ∀ w ∈ lw_tbl, w.before A s = true) : ∃ g : Sg, wK2 g s := by
  have hall : ∀ w ∈ w_all, w.before A s = true := fun w hw => hts w (List.mem_filter.mp hw).1
  obtain ⟨c0, i0, k0⟩ := u_known hall i_Clock (hall _ m_696)
  obtain ⟨c1, i1, k1⟩ := u_known hall i_Log (hall _ m_682)
  obtain ⟨c2, i2, k2⟩ := u_known hall i_Node (hall _ m_689)
  obtain ⟨c3, i3, k3⟩ := u_known hall i_Txn (hall _ m_688)
  obtain ⟨c4, i4, k4⟩ := u_known hall i_Store (hall _ m_703)
  obtain ⟨c5, i5, k5⟩ := u_known hall i_Model (hall _ m_704)
  obtain ⟨cI, a1, a2⟩ := k_arr (hall _ m_670)
  obtain ⟨cZ, b1, b2⟩ := k_arr (hall _ m_674)
  obtain ⟨cN, n1, n2⟩ := k_over (hts _ lm_N)
  obtain ⟨cT, t1, t2⟩ := k_over (hts _ lm_T)
  refine ⟨((fun c => match c with | 0 => c0 | 1 => c1 | 2 => c2 | 3 => c3 | 4 => c4 | _ => c5, fun c => match c with | 0 => i0 | 1 => i1 | 2 => i2 | 3 => i3 | 4 => i4 | _ => i5), [], fun _ => (0, 0), cI, cZ, cN, cT), ⟨⟨?_, ?_⟩, va_Nw.of rfl (hts _ lm_45)⟩, va_Nw.of rfl (hts _ lm_11), va_AO.of (hts _ lm_N), va_AO.of (hts _ lm_T)⟩
  · intro k q hq
    have hk : k < 6 := (List.getElem?_eq_some_iff.mp hq).1
    rcases (show k = 0 ∨ k = 1 ∨ k = 2 ∨ k = 3 ∨ k = 4 ∨ k = 5 by omega) with rfl | rfl | rfl | rfl | rfl | rfl
    · cases hq; exact k0
    · cases hq; exact k1
    · cases hq; exact k2
    · cases hq; exact k3
    · cases hq; exact k4
    · cases hq; exact k5
  · intro k q hq
    have hk : k < 4 := (List.getElem?_eq_some_iff.mp hq).1
    rcases (show k = 0 ∨ k = 1 ∨ k = 2 ∨ k = 3 by omega) with rfl | rfl | rfl | rfl
    · cases hq; exact ⟨a1, a2⟩
    · cases hq; exact ⟨b1, b2⟩
    · cases hq; exact ⟨n1, n2⟩
    · cases hq; exact ⟨t1, t2⟩
/-- the law's cell(script, 0): nothing changes -/
theorem pp_cell {Rm : Room} {A : Nat → Prop} {L : List Nat} {f : Nat → va_E} {g : Sg} {b n0 : Nat} {xs : Nat → Int32} {H : Heap} {locs : List Loc} {ls : Array Slot} {rest : List Value} {pc : Nat} {Q : State → Prop} {cells slots : Nat} (hx : p.tables.exec = Jvm.exec) (hb : c.code = code) (hml : c.maxLocals = 4) (hown : s.vm.findClass "StampedStoreLaw" = some m.cls) (hall : ∀ w ∈ w_all, w.before #[Value.ref b] s = true) (hX : va_X b n0 xs s s.heap) (hbl : b < s.heap.size) (hbA : ¬ A b) (hn : n0 < 2 ^ 31) (hP : va_P g.1 classes (va_pl L f) H) (hS : va_S A s.heap H locs) (hfr : 1 ≤ Rm.frames) (hlo : 21 ≤ Rm.locals) (hc : cells ≤ Rm.cells) (hs : slots ≤ Rm.slots) (hsz : ls.size = 4) (hrm : (rest.map fun v => v.category).sum ≤ 8) (hdg : decode code pc = .ok (.invokestatic 9, 3))
    (kk : ∀ (H1 : Heap) (locs1 : List Loc), va_P g.1 classes (va_pl L f) H1 → va_S A s.heap H1 locs1 → W p l e Rm s m #[Value.ref b] below meth c H1 locs1 cells slots Q (F0 m (pc + 3) ls (.int (cell0 n0 xs) :: rest))) : W p l e Rm s m #[Value.ref b] below meth c H locs cells slots Q (F0 m pc ls (.int 0 :: .ref b :: rest)) := by
  refine va_calli (va_runS (As := [.ref b, .int 0]) ⟨hx, hb, hml, hown, hall⟩ (c_cell l (b := b) (xs := xs) hn) (cwS 2 hall (gS m_705 m_706 m_707 m_702) rfl rfl rfl (by decide +kernel) ⟨hfr, hlo⟩) ⟨fun a U gg mk q => ⟨q.1, q.2.moved (u := U) (U := U.calling gg mk a) (Vm.Alike.refl U.vm)⟩, fun U hU hW => ⟨rfl, ?_⟩⟩ rfl rfl hsz rfl (lv_room hrm) hdg ⟨hc, hs⟩) hS (fun q _ h => h.elim) (fun q h => h.elim) (fun r u t H1 locs1 ht hvm hpost hB hz1 hk1 hS1 => ?_)
  · show va_X b n0 xs U U.heap
    rw [hU]
    exact (hX.kept (hS.2.1 b hbl hbA)).moved hW.alike
  · subst hpost
    exact kk H1 locs1 (hP.kept (fun k q hk => hk1 q.1 ((hP k q hk).lt) (fun h => h))) hS1
end
set_option maxHeartbeats 8000000 in
set_option maxRecDepth 100000 in
/-- the law from its entry, if its loop answers 1 -/
theorem whole_by {p : Program} {e : Env} {s : State} {m : MethodId} {below : List Frame} {meth : Method} {c : Code} (l : Launch) {b n0 : Nat} {xs : Nat → Int32} (hn0 : n0 ≤ 2049) (C0 : lw_At p s m meth c b n0 xs)
    (pure : ∀ L : List Nat, L.length = 131 → L.Nodup → ∃ J, B_Law_law_28 (RR L) xs n0 600 (L.getD 0 0) (L.getD 110 0) 1 (I0 L (epsOf (cell0 n0 xs))) = some (1, J)) : W p l e room_1 s m #[Value.ref b] below meth c s.heap [] 0 0 (lw_Z below #[Value.ref b] s) (entryFrame m ([Value.ref b] : List Value).toArray 4) := by
  obtain ⟨hx, hb, hr, hml, hown, hts, hX, hbl, hlk, -⟩ := C0
  have hn : n0 < 2 ^ 31 := by omega
  have hall : ∀ w ∈ w_all, w.before #[Value.ref b] s = true := fun w hw => hts w (List.mem_filter.mp hw).1
  obtain ⟨g, hK⟩ := start_K hts
  generalize hAe : (fun q : Nat => s.heap.size ≤ q) = A
  have hA : ∀ q, s.heap.size ≤ q → A q := fun q h => by rw [← hAe]; exact h
  have hAi : ∀ q, A q → s.heap.size ≤ q := fun q h => by rw [← hAe] at h; exact h
  have hbA : ¬ A b := fun h => by have := hAi b h; omega
  have hS : va_S A s.heap s.heap [] := va_S.rf
  have hP : va_P g.1 classes (va_pl [] (fun _ => .inr (0, []))) s.heap := fun k q hk => by cases hk
  have hl := lv_entry ([.ref b]) (n := 4) (Nat.le_of_ble_eq_true rfl)
  rw [lg_entry_eq]
  generalize (lg_sl ([.ref b]) ++ List.replicate (4 - (lg_sl ([.ref b])).length) Slot.unset).toArray = ls at hl ⊢
  have hl : lv_has ls 4 [(0, .ref b)] := hl
  refine pp_new (ci := 4) (fs := [.null, .null, .null, .int 0]) (C := R_Store) (T := F_Store) (N := 4) hx hb hall i_Store t_Store t_Store_ok hown (hall _ m_708) (hall _ m_703) (hall _ m_6) List.nodup_nil (fun q h => by cases h) hK hP hS hA rfl (fun j hj => by rcases (show j = 0 ∨ j = 1 ∨ j = 2 ∨ j = 3 by omega) with rfl | rfl | rfl | rfl <;> rfl) (Nat.le_of_ble_eq_true rfl) (Nat.le_of_ble_eq_true rfl) d_Law_law_0 (fun x f H hq hAx off hfx hP hS => ?_)
  have hLA : ∀ z, z ∈ [x] → A z := fun z hz => by rw [List.mem_singleton.mp hz]; exact hAx
  refine lv_dup hx hb d_Law_law_3 rfl ?_
  refine lv_aload_n hx hb d_Law_law_4 rfl (lv_at hl 0 rfl) ?_
  refine lv_iconst (v := 0) hx hb d_Law_law_5 (by decide) ?_
  refine pp_cell (n0 := n0) (xs := xs) (rest := [.ref x, .ref x]) hx hb hml hown hall hX hbl hbA hn hP hS (Nat.le_of_ble_eq_true rfl) (Nat.le_of_ble_eq_true rfl) (Nat.le_of_ble_eq_true rfl) (Nat.le_of_ble_eq_true rfl) hl.1 (Nat.le_of_ble_eq_true rfl) d_Law_law_6 (fun H locs hP hS => ?_)
  refine pp_init (As := [.int (cell0 n0 xs)]) (rest := [.ref x]) ⟨hx, hb, hml, hown, hall⟩ (c_Store_init l (L := [] ++ [x]) rfl (List.nodup_cons.mpr ⟨List.not_mem_nil, List.nodup_nil⟩) (List.mem_singleton.mpr rfl) hfx) (cwI 1 hall (gC m_685) rfl rfl rfl (hall _ m_6) (hall _ m_710) (hall _ m_712) rfl (by decide +kernel) ⟨Nat.le_of_ble_eq_true rfl, Nat.le_of_ble_eq_true rfl⟩) hK hP hS hA hLA rfl hl.1 rfl (Nat.le_of_ble_eq_true rfl) d_Law_law_9 ⟨Nat.le_of_ble_eq_true rfl, Nat.le_of_ble_eq_true rfl⟩ (fun L1 f1 H locs hpost hLA1 hP hS => ?_)
  obtain ⟨len1, hN1, h10, hI1, h11, h12⟩ := hpost
  dsimp only at len1 hN1 h10 hI1 h11 h12
  refine lv_astore_n (lv' := [(1, .ref x), (0, .ref b)]) hx hb d_Law_law_12 rfl hl (Nat.le_of_ble_eq_true rfl) rfl (fun ls hl => ?_)
  refine pp_new (ci := 5) (fs := [.int 0, .int 0, .null, .null, .null, .null, .null, .null, .null, .null, .null, .null, .null, .null, .null, .null, .int 0, .null, .null, .null, .null, .null, .null]) (C := R_Model) (T := F_Model) (N := 23) hx hb hall i_Model t_Model t_Model_ok hown (hall _ m_709) (hall _ m_704) (hall _ m_338) hN1 hLA1 hK hP hS hA rfl (fun j hj => by rcases (show j = 0 ∨ j = 1 ∨ j = 2 ∨ j = 3 ∨ j = 4 ∨ j = 5 ∨ j = 6 ∨ j = 7 ∨ j = 8 ∨ j = 9 ∨ j = 10 ∨ j = 11 ∨ j = 12 ∨ j = 13 ∨ j = 14 ∨ j = 15 ∨ j = 16 ∨ j = 17 ∨ j = 18 ∨ j = 19 ∨ j = 20 ∨ j = 21 ∨ j = 22 by omega) with rfl | rfl | rfl | rfl | rfl | rfl | rfl | rfl | rfl | rfl | rfl | rfl | rfl | rfl | rfl | rfl | rfl | rfl | rfl | rfl | rfl | rfl | rfl <;> rfl) (Nat.le_of_ble_eq_true rfl) (Nat.le_of_ble_eq_true rfl) d_Law_law_13 (fun y f2 H hqy hAy off2 hfy hP hS => ?_)
  have hN2 := pNd hN1 hqy
  have hLA2 := pLA hLA1 hAy
  refine lv_dup hx hb d_Law_law_16 rfl ?_
  refine lv_aload_n hx hb d_Law_law_17 rfl (lv_at hl 1 rfl) ?_
  refine lv_iconst (v := 0) hx hb d_Law_law_18 (by decide) ?_
  refine pp_cell (n0 := n0) (xs := xs) (rest := [.ref y, .ref y]) hx hb hml hown hall hX hbl hbA hn hP hS (Nat.le_of_ble_eq_true rfl) (Nat.le_of_ble_eq_true rfl) (Nat.le_of_ble_eq_true rfl) (Nat.le_of_ble_eq_true rfl) hl.1 (Nat.le_of_ble_eq_true rfl) d_Law_law_19 (fun H locs hP hS => ?_)
  refine pp_init (As := [.int (cell0 n0 xs)]) (rest := [.ref y]) ⟨hx, hb, hml, hown, hall⟩ (c_Model_init l hN2 (pIs L1 y) hfy) (cwI 1 hall (gC m_700) rfl rfl rfl (hall _ m_338) (hall _ m_711) (hall _ m_713) rfl (by decide +kernel) ⟨Nat.le_of_ble_eq_true rfl, Nat.le_of_ble_eq_true rfl⟩) hK hP hS hA hLA2 rfl hl.1 rfl (Nat.le_of_ble_eq_true rfl) d_Law_law_22 ⟨Nat.le_of_ble_eq_true rfl, Nat.le_of_ble_eq_true rfl⟩ (fun L3 f3 H locs hpost hLA3 hP hS => ?_)
  dsimp only at hpost
  obtain ⟨q0, q1, q2, q3, q4, q5, q6, q7, q8, q9, q10, q11, q12, q13, q14, q15, q16, q17, q18, q19, hL3, hN3, off3, hfm, hq0, hq1, hq2, hq3, hq4, hq5, hq6, hq7, hq8, hq9, hq10, hq11, hq12, hq13, hq14, hq15, hq16, hq17, hq18, hq19⟩ := hpost
  refine lv_astore_n (lv' := [(2, .ref y), (1, .ref x), (0, .ref b)]) hx hb d_Law_law_25 rfl hl (Nat.le_of_ble_eq_true rfl) rfl (fun ls hl => ?_)
  refine lv_iconst (v := 1) hx hb d_Law_law_26 (by decide) ?_
  refine lv_istore_n (lv' := [(3, .int 1), (2, .ref y), (1, .ref x), (0, .ref b)]) hx hb d_Law_law_27 rfl hl (Nat.le_of_ble_eq_true rfl) rfl (fun ls hl => ?_)
  have len2 : (L1 ++ [y]).length = 111 := by rw [List.length_append, len1]; rfl
  have hlen : L3.length = 131 := by rw [hL3, List.length_append, len2]; rfl
  have old : ∀ z, z < 110 → L3.getD z 0 = L1.getD z 0 := fun z hz => by rw [hL3, gD_l (by omega), gD_l (by omega)]
  have gy : L3.getD 110 0 = y := by rw [hL3, gD_l (by omega), gD_r (j := 0) (by omega)]; rfl
  have keep : ∀ z, z < 110 → f3 (L1.getD z 0) = f1 (L1.getD z 0) := fun z hz => (off3 _ (List.mem_append_left _ (gD_m (by omega))) (fun e => hqy (e ▸ gD_m (by omega)))).trans (off2 _ (fun e => hqy (e ▸ gD_m (by omega))))
  have gq0 : L3.getD 111 0 = q0 := by rw [hL3, gD_r (j := 0) (by omega)]; rfl
  have gq1 : L3.getD 112 0 = q1 := by rw [hL3, gD_r (j := 1) (by omega)]; rfl
  have gq2 : L3.getD 113 0 = q2 := by rw [hL3, gD_r (j := 2) (by omega)]; rfl
  have gq3 : L3.getD 114 0 = q3 := by rw [hL3, gD_r (j := 3) (by omega)]; rfl
  have gq4 : L3.getD 115 0 = q4 := by rw [hL3, gD_r (j := 4) (by omega)]; rfl
  have gq5 : L3.getD 116 0 = q5 := by rw [hL3, gD_r (j := 5) (by omega)]; rfl
  have gq6 : L3.getD 117 0 = q6 := by rw [hL3, gD_r (j := 6) (by omega)]; rfl
  have gq7 : L3.getD 118 0 = q7 := by rw [hL3, gD_r (j := 7) (by omega)]; rfl
  have gq8 : L3.getD 119 0 = q8 := by rw [hL3, gD_r (j := 8) (by omega)]; rfl
  have gq9 : L3.getD 120 0 = q9 := by rw [hL3, gD_r (j := 9) (by omega)]; rfl
  have gq10 : L3.getD 121 0 = q10 := by rw [hL3, gD_r (j := 10) (by omega)]; rfl
  have gq11 : L3.getD 122 0 = q11 := by rw [hL3, gD_r (j := 11) (by omega)]; rfl
  have gq12 : L3.getD 123 0 = q12 := by rw [hL3, gD_r (j := 12) (by omega)]; rfl
  have gq13 : L3.getD 124 0 = q13 := by rw [hL3, gD_r (j := 13) (by omega)]; rfl
  have gq14 : L3.getD 125 0 = q14 := by rw [hL3, gD_r (j := 14) (by omega)]; rfl
  have gq15 : L3.getD 126 0 = q15 := by rw [hL3, gD_r (j := 15) (by omega)]; rfl
  have gq16 : L3.getD 127 0 = q16 := by rw [hL3, gD_r (j := 16) (by omega)]; rfl
  have gq17 : L3.getD 128 0 = q17 := by rw [hL3, gD_r (j := 17) (by omega)]; rfl
  have gq18 : L3.getD 129 0 = q18 := by rw [hL3, gD_r (j := 18) (by omega)]; rfl
  have gq19 : L3.getD 130 0 = q19 := by rw [hL3, gD_r (j := 19) (by omega)]; rfl
  have hI : Iv g (epsOf (cell0 n0 xs)) L3 f3 := by
    intro z hz hz1 hz2
    by_cases hzl : z < 110
    · rw [old z hzl, keep z hzl, hI1 z (by omega) hz1 hz2, hL3, List.append_assoc]
      exact (cP_app (fun j => by rw [len1]; exact rP_2 (t := 16) (by omega) (by omega) hz1 hz2)).symm
    · by_cases hzy : z = 110
      · subst hzy
        rw [gy, hfm]
        show _ = (.inr (5, [.int (epsOf (cell0 n0 xs)), .int 0, .ref (L3.getD 111 0), .ref (L3.getD 112 0), .ref (L3.getD 113 0), .ref (L3.getD 114 0), .ref (L3.getD 115 0), .ref (L3.getD 116 0), .ref (L3.getD 117 0), .ref (L3.getD 118 0), .ref (L3.getD 119 0), .ref (L3.getD 120 0), .ref (L3.getD 121 0), .ref (L3.getD 122 0), .ref (L3.getD 123 0), .ref (L3.getD 124 0), .int 0, .ref (L3.getD 125 0), .ref (L3.getD 126 0), .ref (L3.getD 127 0), .ref (L3.getD 128 0), .ref (L3.getD 129 0), .ref (L3.getD 130 0)]) : va_E)
        rw [gq0, gq1, gq2, gq3, gq4, gq5, gq6, gq7, gq8, gq9, gq10, gq11, gq12, gq13, gq14, gq15, gq16, gq17, gq18, gq19]
      · rcases (show z = 111 ∨ z = 112 ∨ z = 113 ∨ z = 114 ∨ z = 115 ∨ z = 116 ∨ z = 117 ∨ z = 118 ∨ z = 119 ∨ z = 120 ∨ z = 121 ∨ z = 122 ∨ z = 123 ∨ z = 124 ∨ z = 125 ∨ z = 126 ∨ z = 127 ∨ z = 128 ∨ z = 129 ∨ z = 130 by omega) with rfl | rfl | rfl | rfl | rfl | rfl | rfl | rfl | rfl | rfl | rfl | rfl | rfl | rfl | rfl | rfl | rfl | rfl | rfl | rfl
        · rw [gq0, hq0]; rfl
        · rw [gq1, hq1]; rfl
        · rw [gq2, hq2]; rfl
        · rw [gq3, hq3]; rfl
        · rw [gq4, hq4]; rfl
        · rw [gq5, hq5]; rfl
        · rw [gq6, hq6]; rfl
        · rw [gq7, hq7]; rfl
        · rw [gq8, hq8]; rfl
        · rw [gq9, hq9]; rfl
        · rw [gq10, hq10]; rfl
        · rw [gq11, hq11]; rfl
        · rw [gq12, hq12]; rfl
        · rw [gq13, hq13]; rfl
        · rw [gq14, hq14]; rfl
        · rw [gq15, hq15]; rfl
        · rw [gq16, hq16]; rfl
        · rw [gq17, hq17]; rfl
        · rw [gq18, hq18]; rfl
        · rw [gq19, hq19]; rfl
  have h1 : f3 (L3.getD 1 0) = .inl (g.cN, 6, .inr (.inr (.inr (.inr (fun j => if j < 6 then some (L3.getD (4 + 7 * j) 0) else none))))) := by
    rw [old 1 (by omega), keep 1 (by omega), h11]
    congr 7
    funext j
    by_cases hj : j < 6
    · rw [if_pos hj, if_pos hj, old _ (by omega)]
    · rw [if_neg hj, if_neg hj]
  have h2 : f3 (L3.getD 2 0) = .inl (g.cT, 16, .inr (.inr (.inr (.inr (fun j => if j < 16 then some (L3.getD (46 + 4 * j) 0) else none))))) := by
    rw [old 2 (by omega), keep 2 (by omega), h12]
    congr 7
    funext j
    by_cases hj : j < 16
    · rw [if_pos hj, if_pos hj, old _ (by omega)]
    · rw [if_neg hj, if_neg hj]
  have hW := start_W hlen hN3 hP hI h1 h2
  have hS3 : va_S (· ∈ (gL g L3).L) s.heap H [] := ⟨hS.1, fun q hq _ => hS.2.1 q hq (fun h => by have := hAi q h; omega), fun q hq => by cases hq⟩
  obtain ⟨J, hJ⟩ := pure L3 hlen hN3
  have hx0 : L3.getD 0 0 = x := by rw [old 0 (by omega)]; exact h10
  rw [hx0, gy] at hJ
  refine va_forget (fun q hq => hAi _ (hS.2.2 q hq)) ?_
  refine W.widen (k := 600000) (n := 7302250) (by decide) (by decide) ?_
  exact b_Law_law_28 (g := gL g L3) (R := RR L3) ⟨hx, hb, hml, hr, hlk, hown, hall, start_Ty hlen hN3, hK.1, hX, hbl, fun h => hbA (hLA3 b h), fun q h => hAi q (hLA3 q h)⟩ 600 x y 1 _ H [] ls (by rw [← hx0]; exact ok_mk hlen hN3 (by omega) (by decide +kernel)) (by rw [← gy]; exact ok_mk hlen hN3 (by omega) (by decide +kernel)) hJ hW hS3 (lv_sub hl [3, 2, 1, 0] rfl)

