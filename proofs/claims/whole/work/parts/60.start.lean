theorem m_702 : (Jvm.Cond.code ({ cls := "StampedStoreLaw", name := "cell", desc := "([II)I" } : Jvm.MethodName) method_2_code (2 : Nat) (Option.some Jvm.ClassFile.FieldType.int)) ∈ w_all := gB (List.mem_append_right _ (List.mem_append_right _ (List.mem_append_right _ (List.mem_append_left _ (List.mem_of_getElem? (l := tables_1_3) (i := 19) rfl))))) rfl
abbrev b_Law_cell : ByteArray := method_2_code
def y_Law_cell : MethodName := ⟨"StampedStoreLaw", "cell", "([II)I"⟩
def w_Law_cell : List Cond := .code y_Law_cell b_Law_cell 2 (some .int) :: w_all
theorem d_Law_cell_0 : decode b_Law_cell 0 = .ok (.iload_n 1, 1) := by decide +kernel
theorem d_Law_cell_1 : decode b_Law_cell 1 = .ok (.aload_n 0, 1) := by decide +kernel
theorem d_Law_cell_2 : decode b_Law_cell 2 = .ok (.arraylength, 1) := by decide +kernel
theorem d_Law_cell_3 : decode b_Law_cell 3 = .ok (.if_icmp .ge 9, 3) := by decide +kernel
theorem d_Law_cell_6 : decode b_Law_cell 6 = .ok (.aload_n 0, 1) := by decide +kernel
theorem d_Law_cell_7 : decode b_Law_cell 7 = .ok (.iload_n 1, 1) := by decide +kernel
theorem d_Law_cell_8 : decode b_Law_cell 8 = .ok (.iaload, 1) := by decide +kernel
theorem d_Law_cell_9 : decode b_Law_cell 9 = .ok (.goto 4, 3) := by decide +kernel
theorem d_Law_cell_12 : decode b_Law_cell 12 = .ok (.iconst 0, 1) := by decide +kernel
theorem d_Law_cell_13 : decode b_Law_cell 13 = .ok (.ireturn, 1) := by decide +kernel
section
theorem arrV_cong {cA : ClassId} {n : Nat} {w w' : Nat → Value} (h : ∀ j, j < n → w j = w' j) : arrV cA n w = arrV cA n w' := by
  unfold arrV
  congr 2
  funext j
  exact h j.val j.isLt
theorem at_ref {D : va_G} {cl : List vw_C} {a n : Nat} {cA : ClassId} {w w' : Nat → Option Nat} {H : Heap} (h : va_at D cl (a, .inl (cA, n, .inr (.inr (.inr (.inr w))))) H) (hw : ∀ j, j < n → w j = w' j) : va_at D cl (a, .inl (cA, n, .inr (.inr (.inr (.inr w'))))) H := by
  have h : H[a]? = some (arrV cA n (fun j => va_rf (w j))) := h
  show H[a]? = some (arrV cA n (fun j => va_rf (w' j)))
  rw [h, arrV_cong (fun j hj => by rw [hw j hj])]
def RR (L : List Nat) (a j : Nat) : Nat := L.getD (rP (L.idxOf a) j) 0
def I0 (L : List Nat) (ev : Int32) : St := fun a j => iP ev (L.idxOf a) j
def gL (g : Sg) (L : List Nat) : Sg := (g.1, L, fun a => kdP (L.idxOf a), g.2.2.2)
theorem idx_at {L : List Nat} (hN : L.Nodup) {p : Nat} (hp : p < L.length) : L.idxOf (L.getD p 0) = p := by
  have hm := gD_m hp
  have hl := List.idxOf_lt_length_of_mem hm
  refine gD_i hN hl hp ?_
  rw [List.getD_eq_getElem?_getD, List.getElem?_eq_getElem hl]
  show L[L.idxOf (L.getD p 0)] = _
  exact List.getElem_idxOf hl
theorem at_idx {L : List Nat} {a : Nat} (h : a ∈ L) : L.getD (L.idxOf a) 0 = a := by
  have hl := List.idxOf_lt_length_of_mem h
  rw [List.getD_eq_getElem?_getD, List.getElem?_eq_getElem hl]
  show L[L.idxOf a] = a
  exact List.getElem_idxOf hl
theorem wE_at {g : Sg} {L : List Nat} {ev : Int32} (hN : L.Nodup) {p : Nat} (hp : p < L.length) : wE (gL g L) (RR L) (I0 L ev) (L.getD p 0) = cP g ev L p := by
  unfold wE cP
  have e1 : RR L (L.getD p 0) = fun j => L.getD (rP p j) 0 := by funext j; unfold RR; rw [idx_at hN hp]
  have e2 : I0 L ev (L.getD p 0) = iP ev p := by funext j; unfold I0; rw [idx_at hN hp]
  have e3 : (gL g L).kd (L.getD p 0) = kdP p := by show kdP (L.idxOf (L.getD p 0)) = _; rw [idx_at hN hp]
  rw [e1, e2, e3]
  rfl
theorem start_W {g : Sg} {ev : Int32} {L : List Nat} {f : Nat → va_E} {H : Heap} (hlen : L.length = 131) (hN : L.Nodup) (hP : va_P g.1 classes (va_pl L f) H) (hc : Iv g ev L f) (h1 : f (L.getD 1 0) = .inl (g.cN, 6, .inr (.inr (.inr (.inr (fun j => if j < 6 then some (L.getD (4 + 7 * j) 0) else none)))))) (h2 : f (L.getD 2 0) = .inl (g.cT, 16, .inr (.inr (.inr (.inr (fun j => if j < 16 then some (L.getD (46 + 4 * j) 0) else none)))))) : wW (gL g L) (RR L) (I0 L ev) H := by
  intro k q hk
  simp only [va_pl, List.getElem?_map] at hk
  cases hi : (gL g L).L[k]? with
  | none => rw [hi] at hk; cases hk
  | some a =>
    rw [hi] at hk
    have hq : q = (a, wE (gL g L) (RR L) (I0 L ev) a) := (Option.some.inj hk).symm
    have hi : L[k]? = some a := hi
    have hkl := (List.getElem?_eq_some_iff.mp hi).1
    have ha : L.getD k 0 = a := by rw [List.getD_eq_getElem?_getD, hi]; rfl
    have hold : va_at g.1 classes (a, f a) H := hP k (a, f a) (by simp only [va_pl, List.getElem?_map, hi]; rfl)
    rw [hq, ← ha, wE_at hN hkl]
    rw [← ha] at hold
    by_cases hk1 : k = 1
    · subst hk1
      rw [h1] at hold
      exact at_ref hold (fun j (hj : j < 6) => by rw [if_pos hj]; show _ = some (L.getD (rP 1 j) 0); unfold rP; rw [if_neg (by omega), if_pos rfl, if_pos hj])
    · by_cases hk2 : k = 2
      · subst hk2
        rw [h2] at hold
        exact at_ref hold (fun j (hj : j < 16) => by rw [if_pos hj]; show _ = some (L.getD (rP 2 j) 0); unfold rP; rw [if_neg (by omega), if_neg (by omega), if_pos rfl, if_pos hj])
      · rw [hc k hkl hk1 hk2] at hold
        exact hold
theorem ok_of {g : Sg} {L : List Nat} (hlen : L.length = 131) {a c n : Nat} (h : okA (gL g L) c n a) : ∃ p, p < 131 ∧ L.idxOf a = p ∧ kdP p = (c, n) := ⟨L.idxOf a, by rw [← hlen]; exact List.idxOf_lt_length_of_mem h.1, rfl, h.2⟩
theorem ok_mk {g : Sg} {L : List Nat} (hlen : L.length = 131) (hN : L.Nodup) {p c n : Nat} (hp : p < 131) (hk : kdP p = (c, n)) : okA (gL g L) c n (L.getD p 0) := ⟨gD_m (L := L) (by omega), by show kdP (L.idxOf (L.getD p 0)) = _; rw [idx_at hN (by omega)]; exact hk⟩
theorem ok_ref {g : Sg} {L : List Nat} (hlen : L.length = 131) (hN : L.Nodup) {a c n c' n' k : Nat} (hf : ∀ p, p < 131 → kdP p = (c, n) → rP p k < 131 ∧ kdP (rP p k) = (c', n')) (h : okA (gL g L) c n a) : okA (gL g L) c' n' (RR L a k) := by
  obtain ⟨p, hp, hi, hk⟩ := ok_of hlen h
  obtain ⟨h1, h2⟩ := hf p hp hk
  unfold RR
  rw [hi]
  exact ok_mk hlen hN h1 h2
set_option maxRecDepth 100000 in
theorem start_Ty {g : Sg} {L : List Nat} (hlen : L.length = 131) (hN : L.Nodup) : Ty (gL g L) (RR L) := by
  refine ⟨hN, ?_, ?_, ?_, ?_, ?_, ?_, ?_⟩
  · exact fun a h => ⟨ok_ref hlen hN (by decide +kernel) h, ok_ref hlen hN (by decide +kernel) h, ok_ref hlen hN (by decide +kernel) h, ok_ref hlen hN (by decide +kernel) h, ok_ref hlen hN (by decide +kernel) h⟩
  · exact fun a h => ⟨ok_ref hlen hN (by decide +kernel) h, ok_ref hlen hN (by decide +kernel) h⟩
  · exact fun a h => ⟨ok_ref hlen hN (by decide +kernel) h, ok_ref hlen hN (by decide +kernel) h, ok_ref hlen hN (by decide +kernel) h⟩
  · exact fun a h => ⟨ok_ref hlen hN (by decide +kernel) h, ok_ref hlen hN (by decide +kernel) h, ok_ref hlen hN (by decide +kernel) h⟩
  · exact fun a h => ⟨ok_ref hlen hN (by decide +kernel) h, ok_ref hlen hN (by decide +kernel) h, ok_ref hlen hN (by decide +kernel) h, ok_ref hlen hN (by decide +kernel) h, ok_ref hlen hN (by decide +kernel) h, ok_ref hlen hN (by decide +kernel) h, ok_ref hlen hN (by decide +kernel) h, ok_ref hlen hN (by decide +kernel) h, ok_ref hlen hN (by decide +kernel) h, ok_ref hlen hN (by decide +kernel) h, ok_ref hlen hN (by decide +kernel) h, ok_ref hlen hN (by decide +kernel) h, ok_ref hlen hN (by decide +kernel) h, ok_ref hlen hN (by decide +kernel) h, ok_ref hlen hN (by decide +kernel) h, ok_ref hlen hN (by decide +kernel) h, ok_ref hlen hN (by decide +kernel) h, ok_ref hlen hN (by decide +kernel) h, ok_ref hlen hN (by decide +kernel) h, ok_ref hlen hN (by decide +kernel) h⟩
  · intro a h j
    obtain ⟨p, hp, hi, hk⟩ := ok_of hlen h
    have hp1 : p = 1 := by
      have : ∀ p, p < 131 → kdP p = (8, 6) → p = 1 := by decide +kernel
      exact this p hp hk
    unfold RR
    rw [hi, hp1]
    by_cases hj : j < 6
    · have : rP 1 j = 4 + 7 * j := by unfold rP; rw [if_neg (by omega), if_pos rfl, if_pos hj]
      rw [this]
      refine ok_mk hlen hN (by omega) ?_
      have : ∀ j, j < 6 → kdP (4 + 7 * j) = (2, 0) := by decide +kernel
      exact this j hj
    · have : rP 1 j = 4 := by unfold rP; rw [if_neg (by omega), if_pos rfl, if_neg hj]
      rw [this]
      exact ok_mk hlen hN (by omega) (by decide +kernel)
  · intro a h j
    obtain ⟨p, hp, hi, hk⟩ := ok_of hlen h
    have hp1 : p = 2 := by
      have : ∀ p, p < 131 → kdP p = (9, 16) → p = 2 := by decide +kernel
      exact this p hp hk
    unfold RR
    rw [hi, hp1]
    by_cases hj : j < 16
    · have : rP 2 j = 46 + 4 * j := by unfold rP; rw [if_neg (by omega), if_neg (by omega), if_pos rfl, if_pos hj]
      rw [this]
      refine ok_mk hlen hN (by omega) ?_
      have : ∀ j, j < 16 → kdP (46 + 4 * j) = (3, 0) := by decide +kernel
      exact this j hj
    · have : rP 2 j = 46 := by unfold rP; rw [if_neg (by omega), if_neg (by omega), if_pos rfl, if_neg hj]
      rw [this]
      exact ok_mk hlen hN (by omega) (by decide +kernel)
end
section
def cell0 (n0 : Nat) (xs : Nat → Int32) : Int32 := if 0 < n0 then xs 0 else 0
set_option maxHeartbeats 4000000 in
theorem c_cell (l : Launch) {b n0 : Nat} {xs : Nat → Int32} (hn : n0 < 2 ^ 31) : Met l y_Law_cell w_Law_cell { frames := 0, cells := 0, slots := 0, locals := 0 } (va_Pc [.ref b, .int 0] (fun U => va_X b n0 xs U U.heap)) (va_Qi (fun r (_ : Unit) => r = cell0 n0 xs) (fun _ _ => True) (fun _ => False)) 0 0 (fun _ => False) := by
  refine Met.ofW (cc := b_Law_cell) (maxL := 2) (ret := some .int) (by decide) rfl ?_
  intro p e s m args below meth c s₁ B hml hv
  obtain ⟨rfl, hX⟩ := hv
  have hx := B.exec
  have hb := B.bytes
  have hr := B.returns
  have hlk := B.notSynchronized
  have hl := lv_entry ([.ref b, .int 0]) (n := 2) (Nat.le_of_ble_eq_true rfl)
  rw [lg_entry_eq]
  generalize (lg_sl ([.ref b, .int 0]) ++ List.replicate (2 - (lg_sl ([.ref b, .int 0])).length) Slot.unset).toArray = ls at hl ⊢
  have hl : lv_has ls 2 [(0, .ref b), (1, .int 0)] := hl
  have hS : va_S (fun _ => False) s.heap s.heap [] := va_S.rf
  have hbl : b < s.heap.size := by
    obtain ⟨scr, h1, -⟩ := hX
    exact (Array.getElem?_eq_some_iff.mp h1).1
  refine lv_iload_n hx hb d_Law_cell_0 rfl (lv_at hl 1 rfl) ?_
  refine lv_aload_n hx hb d_Law_cell_1 rfl (lv_at hl 0 rfl) ?_
  refine va_slen hx hb hX hbl (fun h => h) hS d_Law_cell_2 ?_
  refine lv_icmp_ge hx hb d_Law_cell_3 rfl (fun hc => ?_) (fun hc => ?_)
  · have h0 : ¬ 0 < n0 := fun h => absurd hc (nI_nle h hn)
    refine lv_iconst (v := 0) hx hb d_Law_cell_12 (by decide) ?_
    exact W.iret (v := 0) hx hb hr (fun t ht hW => ⟨⟨0, (), rfl, by unfold cell0; rw [if_neg h0], trivial⟩, hS.F ht⟩) hS.2.2 d_Law_cell_13
  · have h0 : 0 < n0 := by
      refine Nat.pos_of_ne_zero fun h => hc ?_
      subst h
      decide
    refine lv_aload_n hx hb d_Law_cell_6 rfl (lv_at hl 0 rfl) ?_
    refine lv_iload_n hx hb d_Law_cell_7 rfl (lv_at hl 1 rfl) ?_
    refine va_sld hx hb hX hbl (fun h => h) hS (i := 0) (vp_in_nI (n := 0) h0 hn) d_Law_cell_8 ?_
    refine lv_goto hx hb d_Law_cell_9 rfl ?_
    exact W.iret (v := xs 0) hx hb hr (fun t ht hW => ⟨⟨xs 0, (), rfl, by unfold cell0; rw [if_pos h0], trivial⟩, hS.F ht⟩) hS.2.2 d_Law_cell_13
end

