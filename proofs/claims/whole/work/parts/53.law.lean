section
def B_Law_law_656 (R : Nat → Nat → Nat) (xs : Nat → Int32) (n0 : Nat) (k28 : Nat → Nat → Int32 → St → Option (Int32 × St)) (a1 a2 : Nat) (x3 : Int32) (I : St) : Option (Int32 × St) := k28 a1 a2 (x3 + 4) I
set_option maxHeartbeats 8000000 in
set_option maxRecDepth 100000 in
theorem b_Law_law_656 {p : Program} {l : Launch} {e : Env} {s : State} {m : MethodId} {below : List Frame} {meth : Method} {c : Code} {g : Sg} {R : Nat → Nat → Nat} {b n0 : Nat} {xs : Nat → Int32} {J : St} (cx : CxL p s m meth c g R b n0 xs) {k28 : Nat → Nat → Int32 → St → Option (Int32 × St)} (hk28 : ∀ (a1 : Nat) (a2 : Nat) (x3 : Int32) (I : St) (H : Heap) (locs : List Loc) (ls : Array Slot), okA g 4 0 a1 → okA g 5 0 a2 → k28 a1 a2 x3 I = some (1, J) → wW g R I H → va_S (· ∈ g.L) s.heap H locs → lv_has ls 4 [(0, .ref b), (1, .ref a1), (2, .ref a2), (3, .int x3)] → W p l e room_1 s m #[Value.ref b] below meth c H locs 600000 7302250 (lw_Z below #[Value.ref b] s) (F0 m 28 ls [])) : ∀ (a1 : Nat) (a2 : Nat) (x3 : Int32) (I : St) (H : Heap) (locs : List Loc) (ls : Array Slot), okA g 4 0 a1 → okA g 5 0 a2 → B_Law_law_656 R xs n0 k28 a1 a2 x3 I = some (1, J) → wW g R I H → va_S (· ∈ g.L) s.heap H locs → lv_has ls 4 [(0, .ref b), (1, .ref a1), (2, .ref a2), (3, .int x3)] → W p l e room_1 s m #[Value.ref b] below meth c H locs 600000 7302250 (lw_Z below #[Value.ref b] s) (F0 m 656 ls []) := by
  have ⟨hx, hb, hml, hr, hlk, hown, hall, hT, hK, hX, hbl, hbA, hsz⟩ := cx
  intro a1 a2 x3 I H locs ls o1 o2 h hP hS hl
  unfold B_Law_law_656 at h
  refine lv_iinc (k := 3) (v := (x3 + 4)) (lv' := [(3, .int (x3 + 4)), (0, .ref b), (1, .ref a1), (2, .ref a2)]) hx hb d_Law_law_656 hl rfl (by rw [show Int32.ofInt 4 = (4 : Int32) from by decide]) (Nat.le_of_ble_eq_true rfl) rfl (fun ls hl => ?_)
  refine lv_goto hx hb d_Law_law_659 rfl ?_
  exact hk28 _ _ _ _ _ _ _ o1 o2 h hP hS (lv_sub hl [1, 2, 3, 0] rfl)
def B_Law_law_28 (R : Nat → Nat → Nat) (xs : Nat → Int32) (n0 : Nat) : Nat → Nat → Nat → Int32 → St → Option (Int32 × St)
  | 0, _, _, _, _ => none
  | f + 1, a1, a2, x3, I => (if ((Int32.ofNat n0) - (4 : Int32)) < x3 then some ((1 : Int32), I) else (chk x3 n0 ((if ((xs x3.toNatClampNeg) &&& (31 : Int32)) = 0 then (chk (x3 + (1 : Int32)) n0 ((ob2 (F_Store_tick R a1 (xs (x3 + (1 : Int32)).toNatClampNeg) I) (fun v142 I142 => (chk (x3 + (1 : Int32)) n0 ((ob2 (F_Model_tick R a2 (xs (x3 + (1 : Int32)).toNatClampNeg) I142) (fun v151 I151 => (if v142 = v151 then B_Law_law_656 R xs n0 (B_Law_law_28 R xs n0 f) a1 a2 x3 I151 else some ((0 : Int32), I151)))))))))) else (if ((xs x3.toNatClampNeg) &&& (31 : Int32)) = 1 then (chk (x3 + (1 : Int32)) n0 ((chk (x3 + (2 : Int32)) n0 ((ob2 (F_Store_skew R a1 (xs (x3 + (1 : Int32)).toNatClampNeg) (xs (x3 + (2 : Int32)).toNatClampNeg) I) (fun v170 I170 => (chk (x3 + (1 : Int32)) n0 ((chk (x3 + (2 : Int32)) n0 ((ob2 (F_Model_skew R a2 (xs (x3 + (1 : Int32)).toNatClampNeg) (xs (x3 + (2 : Int32)).toNatClampNeg) I170) (fun v184 I184 => (if v170 = v184 then B_Law_law_656 R xs n0 (B_Law_law_28 R xs n0 f) a1 a2 x3 I184 else some ((0 : Int32), I184)))))))))))))) else (if ((xs x3.toNatClampNeg) &&& (31 : Int32)) = 2 then (chk (x3 + (1 : Int32)) n0 ((ob2 (F_Store_crash R a1 (xs (x3 + (1 : Int32)).toNatClampNeg) I) (fun v198 I198 => (chk (x3 + (1 : Int32)) n0 ((ob2 (F_Model_crash R a2 (xs (x3 + (1 : Int32)).toNatClampNeg) I198) (fun v207 I207 => (if v198 = v207 then B_Law_law_656 R xs n0 (B_Law_law_28 R xs n0 f) a1 a2 x3 I207 else some ((0 : Int32), I207)))))))))) else (if ((xs x3.toNatClampNeg) &&& (31 : Int32)) = 3 then (chk (x3 + (1 : Int32)) n0 ((ob2 (F_Store_recover R a1 (xs (x3 + (1 : Int32)).toNatClampNeg) I) (fun v221 I221 => (chk (x3 + (1 : Int32)) n0 ((ob2 (F_Model_recover R a2 (xs (x3 + (1 : Int32)).toNatClampNeg) I221) (fun v230 I230 => (if v221 = v230 then B_Law_law_656 R xs n0 (B_Law_law_28 R xs n0 f) a1 a2 x3 I230 else some ((0 : Int32), I230)))))))))) else (if ((xs x3.toNatClampNeg) &&& (31 : Int32)) = 4 then (chk (x3 + (1 : Int32)) n0 ((ob2 (F_Store_elect R a1 (xs (x3 + (1 : Int32)).toNatClampNeg) I) (fun v244 I244 => (chk (x3 + (1 : Int32)) n0 ((ob2 (F_Model_elect R a2 (xs (x3 + (1 : Int32)).toNatClampNeg) I244) (fun v253 I253 => (if v244 = v253 then B_Law_law_656 R xs n0 (B_Law_law_28 R xs n0 f) a1 a2 x3 I253 else some ((0 : Int32), I253)))))))))) else (if ((xs x3.toNatClampNeg) &&& (31 : Int32)) = 5 then (chk (x3 + (1 : Int32)) n0 ((ob2 (F_Store_beat R a1 (xs (x3 + (1 : Int32)).toNatClampNeg) I) (fun v267 I267 => (chk (x3 + (1 : Int32)) n0 ((ob2 (F_Model_beat R a2 (xs (x3 + (1 : Int32)).toNatClampNeg) I267) (fun v276 I276 => (if v267 = v276 then B_Law_law_656 R xs n0 (B_Law_law_28 R xs n0 f) a1 a2 x3 I276 else some ((0 : Int32), I276)))))))))) else (if ((xs x3.toNatClampNeg) &&& (31 : Int32)) = 6 then (chk (x3 + (1 : Int32)) n0 ((chk (x3 + (2 : Int32)) n0 ((ob2 (F_Store_ship R a1 (xs (x3 + (1 : Int32)).toNatClampNeg) (xs (x3 + (2 : Int32)).toNatClampNeg) I) (fun v295 I295 => (chk (x3 + (1 : Int32)) n0 ((chk (x3 + (2 : Int32)) n0 ((ob2 (F_Model_ship R a2 (xs (x3 + (1 : Int32)).toNatClampNeg) (xs (x3 + (2 : Int32)).toNatClampNeg) I295) (fun v309 I309 => (if v295 = v309 then B_Law_law_656 R xs n0 (B_Law_law_28 R xs n0 f) a1 a2 x3 I309 else some ((0 : Int32), I309)))))))))))))) else (if ((xs x3.toNatClampNeg) &&& (31 : Int32)) = 7 then (ob2 (F_Store_begin R a1 I) (fun v318 I318 => (ob2 (F_Model_begin R a2 I318) (fun v322 I322 => (if v318 = v322 then B_Law_law_656 R xs n0 (B_Law_law_28 R xs n0 f) a1 a2 x3 I322 else some ((0 : Int32), I322)))))) else (if ((xs x3.toNatClampNeg) &&& (31 : Int32)) = 8 then (chk (x3 + (1 : Int32)) n0 ((chk (x3 + (2 : Int32)) n0 ((ob2 (F_Store_read R a1 (xs (x3 + (1 : Int32)).toNatClampNeg) (xs (x3 + (2 : Int32)).toNatClampNeg) I) (fun v341 I341 => (chk (x3 + (1 : Int32)) n0 ((chk (x3 + (2 : Int32)) n0 ((ob2 (F_Model_read R a2 (xs (x3 + (1 : Int32)).toNatClampNeg) (xs (x3 + (2 : Int32)).toNatClampNeg) I341) (fun v355 I355 => (if v341 = v355 then B_Law_law_656 R xs n0 (B_Law_law_28 R xs n0 f) a1 a2 x3 I355 else some ((0 : Int32), I355)))))))))))))) else (if ((xs x3.toNatClampNeg) &&& (31 : Int32)) = 9 then (chk (x3 + (1 : Int32)) n0 ((chk (x3 + (2 : Int32)) n0 ((chk (x3 + (3 : Int32)) n0 ((ob2 (F_Store_write R a1 (xs (x3 + (1 : Int32)).toNatClampNeg) (xs (x3 + (2 : Int32)).toNatClampNeg) (xs (x3 + (3 : Int32)).toNatClampNeg) I) (fun v379 I379 => (chk (x3 + (1 : Int32)) n0 ((chk (x3 + (2 : Int32)) n0 ((chk (x3 + (3 : Int32)) n0 ((ob2 (F_Model_write R a2 (xs (x3 + (1 : Int32)).toNatClampNeg) (xs (x3 + (2 : Int32)).toNatClampNeg) (xs (x3 + (3 : Int32)).toNatClampNeg) I379) (fun v398 I398 => (if v379 = v398 then B_Law_law_656 R xs n0 (B_Law_law_28 R xs n0 f) a1 a2 x3 I398 else some ((0 : Int32), I398)))))))))))))))))) else (if ((xs x3.toNatClampNeg) &&& (31 : Int32)) = 10 then (chk (x3 + (1 : Int32)) n0 ((ob2 (F_Store_commit R a1 (xs (x3 + (1 : Int32)).toNatClampNeg) I) (fun v412 I412 => (chk (x3 + (1 : Int32)) n0 ((ob2 (F_Model_commit R a2 (xs (x3 + (1 : Int32)).toNatClampNeg) I412) (fun v421 I421 => (if v412 = v421 then B_Law_law_656 R xs n0 (B_Law_law_28 R xs n0 f) a1 a2 x3 I421 else some ((0 : Int32), I421)))))))))) else (if ((xs x3.toNatClampNeg) &&& (31 : Int32)) = 11 then (chk (x3 + (1 : Int32)) n0 ((ob2 (F_Store_abort R a1 (xs (x3 + (1 : Int32)).toNatClampNeg) I) (fun v435 I435 => (chk (x3 + (1 : Int32)) n0 ((ob2 (F_Model_abort R a2 (xs (x3 + (1 : Int32)).toNatClampNeg) I435) (fun v444 I444 => (if v435 = v444 then B_Law_law_656 R xs n0 (B_Law_law_28 R xs n0 f) a1 a2 x3 I444 else some ((0 : Int32), I444)))))))))) else (if ((xs x3.toNatClampNeg) &&& (31 : Int32)) = 12 then (chk (x3 + (1 : Int32)) n0 ((ob2 (F_Store_step R a1 (xs (x3 + (1 : Int32)).toNatClampNeg) I) (fun v458 I458 => (chk (x3 + (1 : Int32)) n0 ((ob2 (F_Model_step R a2 (xs (x3 + (1 : Int32)).toNatClampNeg) I458) (fun v467 I467 => (if v458 = v467 then B_Law_law_656 R xs n0 (B_Law_law_28 R xs n0 f) a1 a2 x3 I467 else some ((0 : Int32), I467)))))))))) else (if ((xs x3.toNatClampNeg) &&& (31 : Int32)) = 13 then (chk (x3 + (1 : Int32)) n0 ((ob (F_Store_state R a1 (xs (x3 + (1 : Int32)).toNatClampNeg) I) (fun v481 => (chk (x3 + (1 : Int32)) n0 ((ob (F_Model_state R a2 (xs (x3 + (1 : Int32)).toNatClampNeg) I) (fun v490 => (if v481 = v490 then B_Law_law_656 R xs n0 (B_Law_law_28 R xs n0 f) a1 a2 x3 I else some ((0 : Int32), I)))))))))) else (if ((xs x3.toNatClampNeg) &&& (31 : Int32)) = 14 then (chk (x3 + (1 : Int32)) n0 ((ob (F_Store_stamp R a1 (xs (x3 + (1 : Int32)).toNatClampNeg) I) (fun v504 => (chk (x3 + (1 : Int32)) n0 ((ob (F_Model_stamp R a2 (xs (x3 + (1 : Int32)).toNatClampNeg) I) (fun v513 => (if v504 = v513 then B_Law_law_656 R xs n0 (B_Law_law_28 R xs n0 f) a1 a2 x3 I else some ((0 : Int32), I)))))))))) else (if ((xs x3.toNatClampNeg) &&& (31 : Int32)) = 15 then (chk (x3 + (1 : Int32)) n0 ((chk (x3 + (2 : Int32)) n0 ((chk (x3 + (3 : Int32)) n0 ((ob (F_Store_snapshot R a1 (xs (x3 + (1 : Int32)).toNatClampNeg) (xs (x3 + (2 : Int32)).toNatClampNeg) (xs (x3 + (3 : Int32)).toNatClampNeg) I) (fun v537 => (chk (x3 + (1 : Int32)) n0 ((chk (x3 + (2 : Int32)) n0 ((chk (x3 + (3 : Int32)) n0 ((ob (F_Model_snapshot R a2 (xs (x3 + (1 : Int32)).toNatClampNeg) (xs (x3 + (2 : Int32)).toNatClampNeg) (xs (x3 + (3 : Int32)).toNatClampNeg) I) (fun v556 => (if v537 = v556 then B_Law_law_656 R xs n0 (B_Law_law_28 R xs n0 f) a1 a2 x3 I else some ((0 : Int32), I)))))))))))))))))) else (if ((xs x3.toNatClampNeg) &&& (31 : Int32)) = 16 then (chk (x3 + (1 : Int32)) n0 ((ob (F_Store_safe R a1 (xs (x3 + (1 : Int32)).toNatClampNeg) I) (fun v570 => (chk (x3 + (1 : Int32)) n0 ((ob (F_Model_safe R a2 (xs (x3 + (1 : Int32)).toNatClampNeg) I) (fun v579 => (if v570 = v579 then B_Law_law_656 R xs n0 (B_Law_law_28 R xs n0 f) a1 a2 x3 I else some ((0 : Int32), I)))))))))) else (if ((xs x3.toNatClampNeg) &&& (31 : Int32)) = 17 then (chk (x3 + (1 : Int32)) n0 ((ob (F_Store_length R a1 (xs (x3 + (1 : Int32)).toNatClampNeg) I) (fun v593 => (chk (x3 + (1 : Int32)) n0 ((ob (F_Model_length R a2 (xs (x3 + (1 : Int32)).toNatClampNeg) I) (fun v602 => (if v593 = v602 then B_Law_law_656 R xs n0 (B_Law_law_28 R xs n0 f) a1 a2 x3 I else some ((0 : Int32), I)))))))))) else (if ((xs x3.toNatClampNeg) &&& (31 : Int32)) = 18 then (chk (x3 + (1 : Int32)) n0 ((ob (F_Store_known R a1 (xs (x3 + (1 : Int32)).toNatClampNeg) I) (fun v616 => (chk (x3 + (1 : Int32)) n0 ((ob (F_Model_known R a2 (xs (x3 + (1 : Int32)).toNatClampNeg) I) (fun v625 => (if v616 = v625 then B_Law_law_656 R xs n0 (B_Law_law_28 R xs n0 f) a1 a2 x3 I else some ((0 : Int32), I)))))))))) else (if ((xs x3.toNatClampNeg) &&& (31 : Int32)) = 19 then (chk (x3 + (1 : Int32)) n0 ((ob (F_Store_leader R a1 (xs (x3 + (1 : Int32)).toNatClampNeg) I) (fun v639 => (chk (x3 + (1 : Int32)) n0 ((ob (F_Model_leader R a2 (xs (x3 + (1 : Int32)).toNatClampNeg) I) (fun v648 => (if v639 = v648 then B_Law_law_656 R xs n0 (B_Law_law_28 R xs n0 f) a1 a2 x3 I else some ((0 : Int32), I)))))))))) else B_Law_law_656 R xs n0 (B_Law_law_28 R xs n0 f) a1 a2 x3 I)))))))))))))))))))))))
set_option maxHeartbeats 8000000 in
set_option maxRecDepth 100000 in
theorem b_Law_law_28 {p : Program} {l : Launch} {e : Env} {s : State} {m : MethodId} {below : List Frame} {meth : Method} {c : Code} {g : Sg} {R : Nat → Nat → Nat} {b n0 : Nat} {xs : Nat → Int32} {J : St} (cx : CxL p s m meth c g R b n0 xs) (f : Nat) : ∀ (a1 : Nat) (a2 : Nat) (x3 : Int32) (I : St) (H : Heap) (locs : List Loc) (ls : Array Slot), okA g 4 0 a1 → okA g 5 0 a2 → B_Law_law_28 R xs n0 f a1 a2 x3 I = some (1, J) → wW g R I H → va_S (· ∈ g.L) s.heap H locs → lv_has ls 4 [(0, .ref b), (1, .ref a1), (2, .ref a2), (3, .int x3)] → W p l e room_1 s m #[Value.ref b] below meth c H locs 600000 7302250 (lw_Z below #[Value.ref b] s) (F0 m 28 ls []) := by
  have ⟨hx, hb, hml, hr, hlk, hown, hall, hT, hK, hX, hbl, hbA, hsz⟩ := cx
  induction f with
  | zero => intro a1 a2 x3 I H locs ls o1 o2 h; unfold B_Law_law_28 at h; cases h
  | succ f ih =>
    intro a1 a2 x3 I H locs ls o1 o2 h hP hS hl
    unfold B_Law_law_28 at h
    refine lv_iload_n hx hb d_Law_law_28 rfl (lv_at hl 3 rfl) ?_
    refine lv_aload_n hx hb d_Law_law_29 rfl (lv_at hl 0 rfl) ?_
    refine va_slen hx hb hX hbl hbA hS d_Law_law_30 ?_
    refine lv_iconst (v := 4) hx hb d_Law_law_31 (by decide) ?_
    refine lv_isub hx hb d_Law_law_32 ?_
    refine lv_icmp_gt hx hb d_Law_law_33 rfl (fun hc => ?_) (fun hc => ?_)
    · replace h := i_pos hc h
      refine lv_iconst (v := 1) hx hb d_Law_law_662 (by decide) ?_
      refine va_forget (fun q hq => hsz _ (hS.2.2 q hq)) ?_
      exact lw_ret hx hb hr hlk d_Law_law_663
    · replace h := i_neg hc h
      refine lv_aload_n hx hb d_Law_law_36 rfl (lv_at hl 0 rfl) ?_
      refine lv_iload_n hx hb d_Law_law_37 rfl (lv_at hl 3 rfl) ?_
      obtain ⟨hi38, h⟩ := chk_el h
      refine va_sld hx hb hX hbl hbA hS hi38 d_Law_law_38 ?_
      refine lv_bipush (v := 31) hx hb d_Law_law_39 (by decide) ?_
      refine lv_iand hx hb d_Law_law_41 ?_
      by_cases hc0 : ((xs x3.toNatClampNeg) &&& (31 : Int32)) = 0
      · replace h := i_pos hc0 h
        refine sw_eqL hc0 ?_
        refine lv_tableIn hx hb d_Law_law_42 (by decide) (by decide) rfl rfl ?_
        refine lv_aload_n hx hb d_Law_law_136 rfl (lv_at hl 1 rfl) ?_
        refine lv_aload_n hx hb d_Law_law_137 rfl (lv_at hl 0 rfl) ?_
        refine lv_iload_n hx hb d_Law_law_138 rfl (lv_at hl 3 rfl) ?_
        refine lv_iconst (v := 1) hx hb d_Law_law_139 (by decide) ?_
        refine lv_iadd hx hb d_Law_law_140 ?_
        obtain ⟨hi141, h⟩ := chk_el h
        refine va_sld hx hb hX hbl hbA hS hi141 d_Law_law_141 ?_
        obtain ⟨v142, I142, e142, h⟩ := ob2_el h
        refine gl_Vi (As := [.int (xs (x3 + (1 : Int32)).toNatClampNeg)]) (rest := []) (ci := 4) (C := R_Store) (T := F_Store) (N := 4) ⟨hx, hb, hml, hown, hall⟩ (c_Store_tick l hT o1 e142) (cwV 1 hall (gV m_545 m_546 m_547 m_6 m_2) rfl rfl rfl (by decide +kernel) ⟨Nat.le_of_ble_eq_true rfl, Nat.le_of_ble_eq_true rfl⟩) ⟨Nat.le_of_ble_eq_true rfl, Nat.le_of_ble_eq_true rfl⟩ hK hP hS o1.1 (wE_4 o1.2) rfl rfl hl.1 rfl (Nat.le_of_ble_eq_true rfl) d_Law_law_142 (fun H locs hP hS => ?_)
        refine lv_aload_n hx hb d_Law_law_145 rfl (lv_at hl 2 rfl) ?_
        refine lv_aload_n hx hb d_Law_law_146 rfl (lv_at hl 0 rfl) ?_
        refine lv_iload_n hx hb d_Law_law_147 rfl (lv_at hl 3 rfl) ?_
        refine lv_iconst (v := 1) hx hb d_Law_law_148 (by decide) ?_
        refine lv_iadd hx hb d_Law_law_149 ?_
        obtain ⟨hi150, h⟩ := chk_el h
        refine va_sld hx hb hX hbl hbA hS hi150 d_Law_law_150 ?_
        obtain ⟨v151, I151, e151, h⟩ := ob2_el h
        refine gl_Vi (As := [.int (xs (x3 + (1 : Int32)).toNatClampNeg)]) (rest := [.int v142]) (ci := 5) (C := R_Model) (T := F_Model) (N := 23) ⟨hx, hb, hml, hown, hall⟩ (c_Model_tick l hT o2 e151) (cwV 1 hall (gV m_548 m_549 m_550 m_338 m_335) rfl rfl rfl (by decide +kernel) ⟨Nat.le_of_ble_eq_true rfl, Nat.le_of_ble_eq_true rfl⟩) ⟨Nat.le_of_ble_eq_true rfl, Nat.le_of_ble_eq_true rfl⟩ hK hP hS o2.1 (wE_5 o2.2) rfl rfl hl.1 rfl (Nat.le_of_ble_eq_true rfl) d_Law_law_151 (fun H locs hP hS => ?_)
        refine lv_icmp_eq hx hb d_Law_law_154 rfl (fun hc => ?_) (fun hc => ?_)
        · replace h := i_pos hc h
          exact b_Law_law_656 cx ih _ _ _ _ _ _ _ o1 o2 h hP hS (lv_sub hl [0, 1, 2, 3] rfl)
        · replace h := i_neg hc h
          refine lv_iconst (v := 0) hx hb d_Law_law_157 (by decide) ?_
          exact absurd (rt_el h).1 (by decide)
      · replace h := i_neg hc0 h
        by_cases hc1 : ((xs x3.toNatClampNeg) &&& (31 : Int32)) = 1
        · replace h := i_pos hc1 h
          refine sw_eqL hc1 ?_
          refine lv_tableIn hx hb d_Law_law_42 (by decide) (by decide) rfl rfl ?_
          refine lv_aload_n hx hb d_Law_law_159 rfl (lv_at hl 1 rfl) ?_
          refine lv_aload_n hx hb d_Law_law_160 rfl (lv_at hl 0 rfl) ?_
          refine lv_iload_n hx hb d_Law_law_161 rfl (lv_at hl 3 rfl) ?_
          refine lv_iconst (v := 1) hx hb d_Law_law_162 (by decide) ?_
          refine lv_iadd hx hb d_Law_law_163 ?_
          obtain ⟨hi164, h⟩ := chk_el h
          refine va_sld hx hb hX hbl hbA hS hi164 d_Law_law_164 ?_
          refine lv_aload_n hx hb d_Law_law_165 rfl (lv_at hl 0 rfl) ?_
          refine lv_iload_n hx hb d_Law_law_166 rfl (lv_at hl 3 rfl) ?_
          refine lv_iconst (v := 2) hx hb d_Law_law_167 (by decide) ?_
          refine lv_iadd hx hb d_Law_law_168 ?_
          obtain ⟨hi169, h⟩ := chk_el h
          refine va_sld hx hb hX hbl hbA hS hi169 d_Law_law_169 ?_
          obtain ⟨v170, I170, e170, h⟩ := ob2_el h
          refine gl_Vi (As := [.int (xs (x3 + (1 : Int32)).toNatClampNeg), .int (xs (x3 + (2 : Int32)).toNatClampNeg)]) (rest := []) (ci := 4) (C := R_Store) (T := F_Store) (N := 4) ⟨hx, hb, hml, hown, hall⟩ (c_Store_skew l hT o1 e170) (cwV 2 hall (gV m_551 m_552 m_553 m_6 m_10) rfl rfl rfl (by decide +kernel) ⟨Nat.le_of_ble_eq_true rfl, Nat.le_of_ble_eq_true rfl⟩) ⟨Nat.le_of_ble_eq_true rfl, Nat.le_of_ble_eq_true rfl⟩ hK hP hS o1.1 (wE_4 o1.2) rfl rfl hl.1 rfl (Nat.le_of_ble_eq_true rfl) d_Law_law_170 (fun H locs hP hS => ?_)
          refine lv_aload_n hx hb d_Law_law_173 rfl (lv_at hl 2 rfl) ?_
          refine lv_aload_n hx hb d_Law_law_174 rfl (lv_at hl 0 rfl) ?_
          refine lv_iload_n hx hb d_Law_law_175 rfl (lv_at hl 3 rfl) ?_
          refine lv_iconst (v := 1) hx hb d_Law_law_176 (by decide) ?_
          refine lv_iadd hx hb d_Law_law_177 ?_
          obtain ⟨hi178, h⟩ := chk_el h
          refine va_sld hx hb hX hbl hbA hS hi178 d_Law_law_178 ?_
          refine lv_aload_n hx hb d_Law_law_179 rfl (lv_at hl 0 rfl) ?_
          refine lv_iload_n hx hb d_Law_law_180 rfl (lv_at hl 3 rfl) ?_
          refine lv_iconst (v := 2) hx hb d_Law_law_181 (by decide) ?_
          refine lv_iadd hx hb d_Law_law_182 ?_
          obtain ⟨hi183, h⟩ := chk_el h
          refine va_sld hx hb hX hbl hbA hS hi183 d_Law_law_183 ?_
          obtain ⟨v184, I184, e184, h⟩ := ob2_el h
          refine gl_Vi (As := [.int (xs (x3 + (1 : Int32)).toNatClampNeg), .int (xs (x3 + (2 : Int32)).toNatClampNeg)]) (rest := [.int v170]) (ci := 5) (C := R_Model) (T := F_Model) (N := 23) ⟨hx, hb, hml, hown, hall⟩ (c_Model_skew l hT o2 e184) (cwV 2 hall (gV m_554 m_555 m_556 m_338 m_339) rfl rfl rfl (by decide +kernel) ⟨Nat.le_of_ble_eq_true rfl, Nat.le_of_ble_eq_true rfl⟩) ⟨Nat.le_of_ble_eq_true rfl, Nat.le_of_ble_eq_true rfl⟩ hK hP hS o2.1 (wE_5 o2.2) rfl rfl hl.1 rfl (Nat.le_of_ble_eq_true rfl) d_Law_law_184 (fun H locs hP hS => ?_)
          refine lv_icmp_eq hx hb d_Law_law_187 rfl (fun hc => ?_) (fun hc => ?_)
          · replace h := i_pos hc h
            exact b_Law_law_656 cx ih _ _ _ _ _ _ _ o1 o2 h hP hS (lv_sub hl [0, 1, 2, 3] rfl)
          · replace h := i_neg hc h
            refine lv_iconst (v := 0) hx hb d_Law_law_190 (by decide) ?_
            exact absurd (rt_el h).1 (by decide)
        · replace h := i_neg hc1 h
          by_cases hc2 : ((xs x3.toNatClampNeg) &&& (31 : Int32)) = 2
          · replace h := i_pos hc2 h
            refine sw_eqL hc2 ?_
            refine lv_tableIn hx hb d_Law_law_42 (by decide) (by decide) rfl rfl ?_
            refine lv_aload_n hx hb d_Law_law_192 rfl (lv_at hl 1 rfl) ?_
            refine lv_aload_n hx hb d_Law_law_193 rfl (lv_at hl 0 rfl) ?_
            refine lv_iload_n hx hb d_Law_law_194 rfl (lv_at hl 3 rfl) ?_
            refine lv_iconst (v := 1) hx hb d_Law_law_195 (by decide) ?_
            refine lv_iadd hx hb d_Law_law_196 ?_
            obtain ⟨hi197, h⟩ := chk_el h
            refine va_sld hx hb hX hbl hbA hS hi197 d_Law_law_197 ?_
            obtain ⟨v198, I198, e198, h⟩ := ob2_el h
            refine gl_Vi (As := [.int (xs (x3 + (1 : Int32)).toNatClampNeg)]) (rest := []) (ci := 4) (C := R_Store) (T := F_Store) (N := 4) ⟨hx, hb, hml, hown, hall⟩ (c_Store_crash l hT o1 e198) (cwV 1 hall (gV m_557 m_558 m_559 m_6 m_13) rfl rfl rfl (by decide +kernel) ⟨Nat.le_of_ble_eq_true rfl, Nat.le_of_ble_eq_true rfl⟩) ⟨Nat.le_of_ble_eq_true rfl, Nat.le_of_ble_eq_true rfl⟩ hK hP hS o1.1 (wE_4 o1.2) rfl rfl hl.1 rfl (Nat.le_of_ble_eq_true rfl) d_Law_law_198 (fun H locs hP hS => ?_)
            refine lv_aload_n hx hb d_Law_law_201 rfl (lv_at hl 2 rfl) ?_
            refine lv_aload_n hx hb d_Law_law_202 rfl (lv_at hl 0 rfl) ?_
            refine lv_iload_n hx hb d_Law_law_203 rfl (lv_at hl 3 rfl) ?_
            refine lv_iconst (v := 1) hx hb d_Law_law_204 (by decide) ?_
            refine lv_iadd hx hb d_Law_law_205 ?_
            obtain ⟨hi206, h⟩ := chk_el h
            refine va_sld hx hb hX hbl hbA hS hi206 d_Law_law_206 ?_
            obtain ⟨v207, I207, e207, h⟩ := ob2_el h
            refine gl_Vi (As := [.int (xs (x3 + (1 : Int32)).toNatClampNeg)]) (rest := [.int v198]) (ci := 5) (C := R_Model) (T := F_Model) (N := 23) ⟨hx, hb, hml, hown, hall⟩ (c_Model_crash l hT o2 e207) (cwV 1 hall (gV m_560 m_561 m_562 m_338 m_342) rfl rfl rfl (by decide +kernel) ⟨Nat.le_of_ble_eq_true rfl, Nat.le_of_ble_eq_true rfl⟩) ⟨Nat.le_of_ble_eq_true rfl, Nat.le_of_ble_eq_true rfl⟩ hK hP hS o2.1 (wE_5 o2.2) rfl rfl hl.1 rfl (Nat.le_of_ble_eq_true rfl) d_Law_law_207 (fun H locs hP hS => ?_)
            refine lv_icmp_eq hx hb d_Law_law_210 rfl (fun hc => ?_) (fun hc => ?_)
            · replace h := i_pos hc h
              exact b_Law_law_656 cx ih _ _ _ _ _ _ _ o1 o2 h hP hS (lv_sub hl [0, 1, 2, 3] rfl)
            · replace h := i_neg hc h
              refine lv_iconst (v := 0) hx hb d_Law_law_213 (by decide) ?_
              exact absurd (rt_el h).1 (by decide)
          · replace h := i_neg hc2 h
            by_cases hc3 : ((xs x3.toNatClampNeg) &&& (31 : Int32)) = 3
            · replace h := i_pos hc3 h
              refine sw_eqL hc3 ?_
              refine lv_tableIn hx hb d_Law_law_42 (by decide) (by decide) rfl rfl ?_
              refine lv_aload_n hx hb d_Law_law_215 rfl (lv_at hl 1 rfl) ?_
              refine lv_aload_n hx hb d_Law_law_216 rfl (lv_at hl 0 rfl) ?_
              refine lv_iload_n hx hb d_Law_law_217 rfl (lv_at hl 3 rfl) ?_
              refine lv_iconst (v := 1) hx hb d_Law_law_218 (by decide) ?_
              refine lv_iadd hx hb d_Law_law_219 ?_
              obtain ⟨hi220, h⟩ := chk_el h
              refine va_sld hx hb hX hbl hbA hS hi220 d_Law_law_220 ?_
              obtain ⟨v221, I221, e221, h⟩ := ob2_el h
              refine gl_Vi (As := [.int (xs (x3 + (1 : Int32)).toNatClampNeg)]) (rest := []) (ci := 4) (C := R_Store) (T := F_Store) (N := 4) ⟨hx, hb, hml, hown, hall⟩ (c_Store_recover l hT o1 e221) (cwV 1 hall (gV m_563 m_564 m_565 m_6 m_14) rfl rfl rfl (by decide +kernel) ⟨Nat.le_of_ble_eq_true rfl, Nat.le_of_ble_eq_true rfl⟩) ⟨Nat.le_of_ble_eq_true rfl, Nat.le_of_ble_eq_true rfl⟩ hK hP hS o1.1 (wE_4 o1.2) rfl rfl hl.1 rfl (Nat.le_of_ble_eq_true rfl) d_Law_law_221 (fun H locs hP hS => ?_)
              refine lv_aload_n hx hb d_Law_law_224 rfl (lv_at hl 2 rfl) ?_
              refine lv_aload_n hx hb d_Law_law_225 rfl (lv_at hl 0 rfl) ?_
              refine lv_iload_n hx hb d_Law_law_226 rfl (lv_at hl 3 rfl) ?_
              refine lv_iconst (v := 1) hx hb d_Law_law_227 (by decide) ?_
              refine lv_iadd hx hb d_Law_law_228 ?_
              obtain ⟨hi229, h⟩ := chk_el h
              refine va_sld hx hb hX hbl hbA hS hi229 d_Law_law_229 ?_
              obtain ⟨v230, I230, e230, h⟩ := ob2_el h
              refine gl_Vi (As := [.int (xs (x3 + (1 : Int32)).toNatClampNeg)]) (rest := [.int v221]) (ci := 5) (C := R_Model) (T := F_Model) (N := 23) ⟨hx, hb, hml, hown, hall⟩ (c_Model_recover l hT o2 e230) (cwV 1 hall (gV m_566 m_567 m_568 m_338 m_343) rfl rfl rfl (by decide +kernel) ⟨Nat.le_of_ble_eq_true rfl, Nat.le_of_ble_eq_true rfl⟩) ⟨Nat.le_of_ble_eq_true rfl, Nat.le_of_ble_eq_true rfl⟩ hK hP hS o2.1 (wE_5 o2.2) rfl rfl hl.1 rfl (Nat.le_of_ble_eq_true rfl) d_Law_law_230 (fun H locs hP hS => ?_)
              refine lv_icmp_eq hx hb d_Law_law_233 rfl (fun hc => ?_) (fun hc => ?_)
              · replace h := i_pos hc h
                exact b_Law_law_656 cx ih _ _ _ _ _ _ _ o1 o2 h hP hS (lv_sub hl [0, 1, 2, 3] rfl)
              · replace h := i_neg hc h
                refine lv_iconst (v := 0) hx hb d_Law_law_236 (by decide) ?_
                exact absurd (rt_el h).1 (by decide)
            · replace h := i_neg hc3 h
              by_cases hc4 : ((xs x3.toNatClampNeg) &&& (31 : Int32)) = 4
              · replace h := i_pos hc4 h
                refine sw_eqL hc4 ?_
                refine lv_tableIn hx hb d_Law_law_42 (by decide) (by decide) rfl rfl ?_
                refine lv_aload_n hx hb d_Law_law_238 rfl (lv_at hl 1 rfl) ?_
                refine lv_aload_n hx hb d_Law_law_239 rfl (lv_at hl 0 rfl) ?_
                refine lv_iload_n hx hb d_Law_law_240 rfl (lv_at hl 3 rfl) ?_
                refine lv_iconst (v := 1) hx hb d_Law_law_241 (by decide) ?_
                refine lv_iadd hx hb d_Law_law_242 ?_
                obtain ⟨hi243, h⟩ := chk_el h
                refine va_sld hx hb hX hbl hbA hS hi243 d_Law_law_243 ?_
                obtain ⟨v244, I244, e244, h⟩ := ob2_el h
                refine gl_Vi (As := [.int (xs (x3 + (1 : Int32)).toNatClampNeg)]) (rest := []) (ci := 4) (C := R_Store) (T := F_Store) (N := 4) ⟨hx, hb, hml, hown, hall⟩ (c_Store_elect l hT o1 e244) (cwV 1 hall (gV m_569 m_570 m_571 m_6 m_113) rfl rfl rfl (by decide +kernel) ⟨Nat.le_of_ble_eq_true rfl, Nat.le_of_ble_eq_true rfl⟩) ⟨Nat.le_of_ble_eq_true rfl, Nat.le_of_ble_eq_true rfl⟩ hK hP hS o1.1 (wE_4 o1.2) rfl rfl hl.1 rfl (Nat.le_of_ble_eq_true rfl) d_Law_law_244 (fun H locs hP hS => ?_)
                refine lv_aload_n hx hb d_Law_law_247 rfl (lv_at hl 2 rfl) ?_
                refine lv_aload_n hx hb d_Law_law_248 rfl (lv_at hl 0 rfl) ?_
                refine lv_iload_n hx hb d_Law_law_249 rfl (lv_at hl 3 rfl) ?_
                refine lv_iconst (v := 1) hx hb d_Law_law_250 (by decide) ?_
                refine lv_iadd hx hb d_Law_law_251 ?_
                obtain ⟨hi252, h⟩ := chk_el h
                refine va_sld hx hb hX hbl hbA hS hi252 d_Law_law_252 ?_
                obtain ⟨v253, I253, e253, h⟩ := ob2_el h
                refine gl_Vi (As := [.int (xs (x3 + (1 : Int32)).toNatClampNeg)]) (rest := [.int v244]) (ci := 5) (C := R_Model) (T := F_Model) (N := 23) ⟨hx, hb, hml, hown, hall⟩ (c_Model_elect l hT o2 e253) (cwV 1 hall (gV m_572 m_573 m_574 m_338 m_408) rfl rfl rfl (by decide +kernel) ⟨Nat.le_of_ble_eq_true rfl, Nat.le_of_ble_eq_true rfl⟩) ⟨Nat.le_of_ble_eq_true rfl, Nat.le_of_ble_eq_true rfl⟩ hK hP hS o2.1 (wE_5 o2.2) rfl rfl hl.1 rfl (Nat.le_of_ble_eq_true rfl) d_Law_law_253 (fun H locs hP hS => ?_)
                refine lv_icmp_eq hx hb d_Law_law_256 rfl (fun hc => ?_) (fun hc => ?_)
                · replace h := i_pos hc h
                  exact b_Law_law_656 cx ih _ _ _ _ _ _ _ o1 o2 h hP hS (lv_sub hl [0, 1, 2, 3] rfl)
                · replace h := i_neg hc h
                  refine lv_iconst (v := 0) hx hb d_Law_law_259 (by decide) ?_
                  exact absurd (rt_el h).1 (by decide)
              · replace h := i_neg hc4 h
                by_cases hc5 : ((xs x3.toNatClampNeg) &&& (31 : Int32)) = 5
                · replace h := i_pos hc5 h
                  refine sw_eqL hc5 ?_
                  refine lv_tableIn hx hb d_Law_law_42 (by decide) (by decide) rfl rfl ?_
                  refine lv_aload_n hx hb d_Law_law_261 rfl (lv_at hl 1 rfl) ?_
                  refine lv_aload_n hx hb d_Law_law_262 rfl (lv_at hl 0 rfl) ?_
                  refine lv_iload_n hx hb d_Law_law_263 rfl (lv_at hl 3 rfl) ?_
                  refine lv_iconst (v := 1) hx hb d_Law_law_264 (by decide) ?_
                  refine lv_iadd hx hb d_Law_law_265 ?_
                  obtain ⟨hi266, h⟩ := chk_el h
                  refine va_sld hx hb hX hbl hbA hS hi266 d_Law_law_266 ?_
                  obtain ⟨v267, I267, e267, h⟩ := ob2_el h
                  refine gl_Vi (As := [.int (xs (x3 + (1 : Int32)).toNatClampNeg)]) (rest := []) (ci := 4) (C := R_Store) (T := F_Store) (N := 4) ⟨hx, hb, hml, hown, hall⟩ (c_Store_beat l hT o1 e267) (cwV 1 hall (gV m_575 m_576 m_577 m_6 m_123) rfl rfl rfl (by decide +kernel) ⟨Nat.le_of_ble_eq_true rfl, Nat.le_of_ble_eq_true rfl⟩) ⟨Nat.le_of_ble_eq_true rfl, Nat.le_of_ble_eq_true rfl⟩ hK hP hS o1.1 (wE_4 o1.2) rfl rfl hl.1 rfl (Nat.le_of_ble_eq_true rfl) d_Law_law_267 (fun H locs hP hS => ?_)
                  refine lv_aload_n hx hb d_Law_law_270 rfl (lv_at hl 2 rfl) ?_
                  refine lv_aload_n hx hb d_Law_law_271 rfl (lv_at hl 0 rfl) ?_
                  refine lv_iload_n hx hb d_Law_law_272 rfl (lv_at hl 3 rfl) ?_
                  refine lv_iconst (v := 1) hx hb d_Law_law_273 (by decide) ?_
                  refine lv_iadd hx hb d_Law_law_274 ?_
                  obtain ⟨hi275, h⟩ := chk_el h
                  refine va_sld hx hb hX hbl hbA hS hi275 d_Law_law_275 ?_
                  obtain ⟨v276, I276, e276, h⟩ := ob2_el h
                  refine gl_Vi (As := [.int (xs (x3 + (1 : Int32)).toNatClampNeg)]) (rest := [.int v267]) (ci := 5) (C := R_Model) (T := F_Model) (N := 23) ⟨hx, hb, hml, hown, hall⟩ (c_Model_beat l hT o2 e276) (cwV 1 hall (gV m_578 m_579 m_580 m_338 m_409) rfl rfl rfl (by decide +kernel) ⟨Nat.le_of_ble_eq_true rfl, Nat.le_of_ble_eq_true rfl⟩) ⟨Nat.le_of_ble_eq_true rfl, Nat.le_of_ble_eq_true rfl⟩ hK hP hS o2.1 (wE_5 o2.2) rfl rfl hl.1 rfl (Nat.le_of_ble_eq_true rfl) d_Law_law_276 (fun H locs hP hS => ?_)
                  refine lv_icmp_eq hx hb d_Law_law_279 rfl (fun hc => ?_) (fun hc => ?_)
                  · replace h := i_pos hc h
                    exact b_Law_law_656 cx ih _ _ _ _ _ _ _ o1 o2 h hP hS (lv_sub hl [0, 1, 2, 3] rfl)
                  · replace h := i_neg hc h
                    refine lv_iconst (v := 0) hx hb d_Law_law_282 (by decide) ?_
                    exact absurd (rt_el h).1 (by decide)
                · replace h := i_neg hc5 h
                  by_cases hc6 : ((xs x3.toNatClampNeg) &&& (31 : Int32)) = 6
                  · replace h := i_pos hc6 h
                    refine sw_eqL hc6 ?_
                    refine lv_tableIn hx hb d_Law_law_42 (by decide) (by decide) rfl rfl ?_
                    refine lv_aload_n hx hb d_Law_law_284 rfl (lv_at hl 1 rfl) ?_
                    refine lv_aload_n hx hb d_Law_law_285 rfl (lv_at hl 0 rfl) ?_
                    refine lv_iload_n hx hb d_Law_law_286 rfl (lv_at hl 3 rfl) ?_
                    refine lv_iconst (v := 1) hx hb d_Law_law_287 (by decide) ?_
                    refine lv_iadd hx hb d_Law_law_288 ?_
                    obtain ⟨hi289, h⟩ := chk_el h
                    refine va_sld hx hb hX hbl hbA hS hi289 d_Law_law_289 ?_
                    refine lv_aload_n hx hb d_Law_law_290 rfl (lv_at hl 0 rfl) ?_
                    refine lv_iload_n hx hb d_Law_law_291 rfl (lv_at hl 3 rfl) ?_
                    refine lv_iconst (v := 2) hx hb d_Law_law_292 (by decide) ?_
                    refine lv_iadd hx hb d_Law_law_293 ?_
                    obtain ⟨hi294, h⟩ := chk_el h
                    refine va_sld hx hb hX hbl hbA hS hi294 d_Law_law_294 ?_
                    obtain ⟨v295, I295, e295, h⟩ := ob2_el h
                    refine gl_Vi (As := [.int (xs (x3 + (1 : Int32)).toNatClampNeg), .int (xs (x3 + (2 : Int32)).toNatClampNeg)]) (rest := []) (ci := 4) (C := R_Store) (T := F_Store) (N := 4) ⟨hx, hb, hml, hown, hall⟩ (c_Store_ship l hT o1 e295) (cwV 2 hall (gV m_581 m_582 m_583 m_6 m_157) rfl rfl rfl (by decide +kernel) ⟨Nat.le_of_ble_eq_true rfl, Nat.le_of_ble_eq_true rfl⟩) ⟨Nat.le_of_ble_eq_true rfl, Nat.le_of_ble_eq_true rfl⟩ hK hP hS o1.1 (wE_4 o1.2) rfl rfl hl.1 rfl (Nat.le_of_ble_eq_true rfl) d_Law_law_295 (fun H locs hP hS => ?_)
                    refine lv_aload_n hx hb d_Law_law_298 rfl (lv_at hl 2 rfl) ?_
                    refine lv_aload_n hx hb d_Law_law_299 rfl (lv_at hl 0 rfl) ?_
                    refine lv_iload_n hx hb d_Law_law_300 rfl (lv_at hl 3 rfl) ?_
                    refine lv_iconst (v := 1) hx hb d_Law_law_301 (by decide) ?_
                    refine lv_iadd hx hb d_Law_law_302 ?_
                    obtain ⟨hi303, h⟩ := chk_el h
                    refine va_sld hx hb hX hbl hbA hS hi303 d_Law_law_303 ?_
                    refine lv_aload_n hx hb d_Law_law_304 rfl (lv_at hl 0 rfl) ?_
                    refine lv_iload_n hx hb d_Law_law_305 rfl (lv_at hl 3 rfl) ?_
                    refine lv_iconst (v := 2) hx hb d_Law_law_306 (by decide) ?_
                    refine lv_iadd hx hb d_Law_law_307 ?_
                    obtain ⟨hi308, h⟩ := chk_el h
                    refine va_sld hx hb hX hbl hbA hS hi308 d_Law_law_308 ?_
                    obtain ⟨v309, I309, e309, h⟩ := ob2_el h
                    refine gl_Vi (As := [.int (xs (x3 + (1 : Int32)).toNatClampNeg), .int (xs (x3 + (2 : Int32)).toNatClampNeg)]) (rest := [.int v295]) (ci := 5) (C := R_Model) (T := F_Model) (N := 23) ⟨hx, hb, hml, hown, hall⟩ (c_Model_ship l hT o2 e309) (cwV 2 hall (gV m_584 m_585 m_586 m_338 m_418) rfl rfl rfl (by decide +kernel) ⟨Nat.le_of_ble_eq_true rfl, Nat.le_of_ble_eq_true rfl⟩) ⟨Nat.le_of_ble_eq_true rfl, Nat.le_of_ble_eq_true rfl⟩ hK hP hS o2.1 (wE_5 o2.2) rfl rfl hl.1 rfl (Nat.le_of_ble_eq_true rfl) d_Law_law_309 (fun H locs hP hS => ?_)
                    refine lv_icmp_eq hx hb d_Law_law_312 rfl (fun hc => ?_) (fun hc => ?_)
                    · replace h := i_pos hc h
                      exact b_Law_law_656 cx ih _ _ _ _ _ _ _ o1 o2 h hP hS (lv_sub hl [0, 1, 2, 3] rfl)
                    · replace h := i_neg hc h
                      refine lv_iconst (v := 0) hx hb d_Law_law_315 (by decide) ?_
                      exact absurd (rt_el h).1 (by decide)
                  · replace h := i_neg hc6 h
                    by_cases hc7 : ((xs x3.toNatClampNeg) &&& (31 : Int32)) = 7
                    · replace h := i_pos hc7 h
                      refine sw_eqL hc7 ?_
                      refine lv_tableIn hx hb d_Law_law_42 (by decide) (by decide) rfl rfl ?_
                      refine lv_aload_n hx hb d_Law_law_317 rfl (lv_at hl 1 rfl) ?_
                      obtain ⟨v318, I318, e318, h⟩ := ob2_el h
                      refine gl_Vi (As := []) (rest := []) (ci := 4) (C := R_Store) (T := F_Store) (N := 4) ⟨hx, hb, hml, hown, hall⟩ (c_Store_begin l hT o1 e318) (cwV 0 hall (gV m_587 m_588 m_589 m_6 m_159) rfl rfl rfl (by decide +kernel) ⟨Nat.le_of_ble_eq_true rfl, Nat.le_of_ble_eq_true rfl⟩) ⟨Nat.le_of_ble_eq_true rfl, Nat.le_of_ble_eq_true rfl⟩ hK hP hS o1.1 (wE_4 o1.2) rfl rfl hl.1 rfl (Nat.le_of_ble_eq_true rfl) d_Law_law_318 (fun H locs hP hS => ?_)
                      refine lv_aload_n hx hb d_Law_law_321 rfl (lv_at hl 2 rfl) ?_
                      obtain ⟨v322, I322, e322, h⟩ := ob2_el h
                      refine gl_Vi (As := []) (rest := [.int v318]) (ci := 5) (C := R_Model) (T := F_Model) (N := 23) ⟨hx, hb, hml, hown, hall⟩ (c_Model_begin l hT o2 e322) (cwV 0 hall (gV m_590 m_591 m_592 m_338 m_420) rfl rfl rfl (by decide +kernel) ⟨Nat.le_of_ble_eq_true rfl, Nat.le_of_ble_eq_true rfl⟩) ⟨Nat.le_of_ble_eq_true rfl, Nat.le_of_ble_eq_true rfl⟩ hK hP hS o2.1 (wE_5 o2.2) rfl rfl hl.1 rfl (Nat.le_of_ble_eq_true rfl) d_Law_law_322 (fun H locs hP hS => ?_)
                      refine lv_icmp_eq hx hb d_Law_law_325 rfl (fun hc => ?_) (fun hc => ?_)
                      · replace h := i_pos hc h
                        exact b_Law_law_656 cx ih _ _ _ _ _ _ _ o1 o2 h hP hS (lv_sub hl [0, 1, 2, 3] rfl)
                      · replace h := i_neg hc h
                        refine lv_iconst (v := 0) hx hb d_Law_law_328 (by decide) ?_
                        exact absurd (rt_el h).1 (by decide)
                    · replace h := i_neg hc7 h
                      by_cases hc8 : ((xs x3.toNatClampNeg) &&& (31 : Int32)) = 8
                      · replace h := i_pos hc8 h
                        refine sw_eqL hc8 ?_
                        refine lv_tableIn hx hb d_Law_law_42 (by decide) (by decide) rfl rfl ?_
                        refine lv_aload_n hx hb d_Law_law_330 rfl (lv_at hl 1 rfl) ?_
                        refine lv_aload_n hx hb d_Law_law_331 rfl (lv_at hl 0 rfl) ?_
                        refine lv_iload_n hx hb d_Law_law_332 rfl (lv_at hl 3 rfl) ?_
                        refine lv_iconst (v := 1) hx hb d_Law_law_333 (by decide) ?_
                        refine lv_iadd hx hb d_Law_law_334 ?_
                        obtain ⟨hi335, h⟩ := chk_el h
                        refine va_sld hx hb hX hbl hbA hS hi335 d_Law_law_335 ?_
                        refine lv_aload_n hx hb d_Law_law_336 rfl (lv_at hl 0 rfl) ?_
                        refine lv_iload_n hx hb d_Law_law_337 rfl (lv_at hl 3 rfl) ?_
                        refine lv_iconst (v := 2) hx hb d_Law_law_338 (by decide) ?_
                        refine lv_iadd hx hb d_Law_law_339 ?_
                        obtain ⟨hi340, h⟩ := chk_el h
                        refine va_sld hx hb hX hbl hbA hS hi340 d_Law_law_340 ?_
                        obtain ⟨v341, I341, e341, h⟩ := ob2_el h
                        refine gl_Vi (As := [.int (xs (x3 + (1 : Int32)).toNatClampNeg), .int (xs (x3 + (2 : Int32)).toNatClampNeg)]) (rest := []) (ci := 4) (C := R_Store) (T := F_Store) (N := 4) ⟨hx, hb, hml, hown, hall⟩ (c_Store_read l hT o1 e341) (cwV 2 hall (gV m_593 m_594 m_595 m_6 m_244) rfl rfl rfl (by decide +kernel) ⟨Nat.le_of_ble_eq_true rfl, Nat.le_of_ble_eq_true rfl⟩) ⟨Nat.le_of_ble_eq_true rfl, Nat.le_of_ble_eq_true rfl⟩ hK hP hS o1.1 (wE_4 o1.2) rfl rfl hl.1 rfl (Nat.le_of_ble_eq_true rfl) d_Law_law_341 (fun H locs hP hS => ?_)
                        refine lv_aload_n hx hb d_Law_law_344 rfl (lv_at hl 2 rfl) ?_
                        refine lv_aload_n hx hb d_Law_law_345 rfl (lv_at hl 0 rfl) ?_
                        refine lv_iload_n hx hb d_Law_law_346 rfl (lv_at hl 3 rfl) ?_
                        refine lv_iconst (v := 1) hx hb d_Law_law_347 (by decide) ?_
                        refine lv_iadd hx hb d_Law_law_348 ?_
                        obtain ⟨hi349, h⟩ := chk_el h
                        refine va_sld hx hb hX hbl hbA hS hi349 d_Law_law_349 ?_
                        refine lv_aload_n hx hb d_Law_law_350 rfl (lv_at hl 0 rfl) ?_
                        refine lv_iload_n hx hb d_Law_law_351 rfl (lv_at hl 3 rfl) ?_
                        refine lv_iconst (v := 2) hx hb d_Law_law_352 (by decide) ?_
                        refine lv_iadd hx hb d_Law_law_353 ?_
                        obtain ⟨hi354, h⟩ := chk_el h
                        refine va_sld hx hb hX hbl hbA hS hi354 d_Law_law_354 ?_
                        obtain ⟨v355, I355, e355, h⟩ := ob2_el h
                        refine gl_Vi (As := [.int (xs (x3 + (1 : Int32)).toNatClampNeg), .int (xs (x3 + (2 : Int32)).toNatClampNeg)]) (rest := [.int v341]) (ci := 5) (C := R_Model) (T := F_Model) (N := 23) ⟨hx, hb, hml, hown, hall⟩ (c_Model_read l hT o2 e355) (cwV 2 hall (gV m_596 m_597 m_598 m_338 m_453) rfl rfl rfl (by decide +kernel) ⟨Nat.le_of_ble_eq_true rfl, Nat.le_of_ble_eq_true rfl⟩) ⟨Nat.le_of_ble_eq_true rfl, Nat.le_of_ble_eq_true rfl⟩ hK hP hS o2.1 (wE_5 o2.2) rfl rfl hl.1 rfl (Nat.le_of_ble_eq_true rfl) d_Law_law_355 (fun H locs hP hS => ?_)
                        refine lv_icmp_eq hx hb d_Law_law_358 rfl (fun hc => ?_) (fun hc => ?_)
                        · replace h := i_pos hc h
                          exact b_Law_law_656 cx ih _ _ _ _ _ _ _ o1 o2 h hP hS (lv_sub hl [0, 1, 2, 3] rfl)
                        · replace h := i_neg hc h
                          refine lv_iconst (v := 0) hx hb d_Law_law_361 (by decide) ?_
                          exact absurd (rt_el h).1 (by decide)
                      · replace h := i_neg hc8 h
                        by_cases hc9 : ((xs x3.toNatClampNeg) &&& (31 : Int32)) = 9
                        · replace h := i_pos hc9 h
                          refine sw_eqL hc9 ?_
                          refine lv_tableIn hx hb d_Law_law_42 (by decide) (by decide) rfl rfl ?_
                          refine lv_aload_n hx hb d_Law_law_363 rfl (lv_at hl 1 rfl) ?_
                          refine lv_aload_n hx hb d_Law_law_364 rfl (lv_at hl 0 rfl) ?_
                          refine lv_iload_n hx hb d_Law_law_365 rfl (lv_at hl 3 rfl) ?_
                          refine lv_iconst (v := 1) hx hb d_Law_law_366 (by decide) ?_
                          refine lv_iadd hx hb d_Law_law_367 ?_
                          obtain ⟨hi368, h⟩ := chk_el h
                          refine va_sld hx hb hX hbl hbA hS hi368 d_Law_law_368 ?_
                          refine lv_aload_n hx hb d_Law_law_369 rfl (lv_at hl 0 rfl) ?_
                          refine lv_iload_n hx hb d_Law_law_370 rfl (lv_at hl 3 rfl) ?_
                          refine lv_iconst (v := 2) hx hb d_Law_law_371 (by decide) ?_
                          refine lv_iadd hx hb d_Law_law_372 ?_
                          obtain ⟨hi373, h⟩ := chk_el h
                          refine va_sld hx hb hX hbl hbA hS hi373 d_Law_law_373 ?_
                          refine lv_aload_n hx hb d_Law_law_374 rfl (lv_at hl 0 rfl) ?_
                          refine lv_iload_n hx hb d_Law_law_375 rfl (lv_at hl 3 rfl) ?_
                          refine lv_iconst (v := 3) hx hb d_Law_law_376 (by decide) ?_
                          refine lv_iadd hx hb d_Law_law_377 ?_
                          obtain ⟨hi378, h⟩ := chk_el h
                          refine va_sld hx hb hX hbl hbA hS hi378 d_Law_law_378 ?_
                          obtain ⟨v379, I379, e379, h⟩ := ob2_el h
                          refine gl_Vi (As := [.int (xs (x3 + (1 : Int32)).toNatClampNeg), .int (xs (x3 + (2 : Int32)).toNatClampNeg), .int (xs (x3 + (3 : Int32)).toNatClampNeg)]) (rest := []) (ci := 4) (C := R_Store) (T := F_Store) (N := 4) ⟨hx, hb, hml, hown, hall⟩ (c_Store_write l hT o1 e379) (cwV 3 hall (gV m_599 m_600 m_601 m_6 m_245) rfl rfl rfl (by decide +kernel) ⟨Nat.le_of_ble_eq_true rfl, Nat.le_of_ble_eq_true rfl⟩) ⟨Nat.le_of_ble_eq_true rfl, Nat.le_of_ble_eq_true rfl⟩ hK hP hS o1.1 (wE_4 o1.2) rfl rfl hl.1 rfl (Nat.le_of_ble_eq_true rfl) d_Law_law_379 (fun H locs hP hS => ?_)
                          refine lv_aload_n hx hb d_Law_law_382 rfl (lv_at hl 2 rfl) ?_
                          refine lv_aload_n hx hb d_Law_law_383 rfl (lv_at hl 0 rfl) ?_
                          refine lv_iload_n hx hb d_Law_law_384 rfl (lv_at hl 3 rfl) ?_
                          refine lv_iconst (v := 1) hx hb d_Law_law_385 (by decide) ?_
                          refine lv_iadd hx hb d_Law_law_386 ?_
                          obtain ⟨hi387, h⟩ := chk_el h
                          refine va_sld hx hb hX hbl hbA hS hi387 d_Law_law_387 ?_
                          refine lv_aload_n hx hb d_Law_law_388 rfl (lv_at hl 0 rfl) ?_
                          refine lv_iload_n hx hb d_Law_law_389 rfl (lv_at hl 3 rfl) ?_
                          refine lv_iconst (v := 2) hx hb d_Law_law_390 (by decide) ?_
                          refine lv_iadd hx hb d_Law_law_391 ?_
                          obtain ⟨hi392, h⟩ := chk_el h
                          refine va_sld hx hb hX hbl hbA hS hi392 d_Law_law_392 ?_
                          refine lv_aload_n hx hb d_Law_law_393 rfl (lv_at hl 0 rfl) ?_
                          refine lv_iload_n hx hb d_Law_law_394 rfl (lv_at hl 3 rfl) ?_
                          refine lv_iconst (v := 3) hx hb d_Law_law_395 (by decide) ?_
                          refine lv_iadd hx hb d_Law_law_396 ?_
                          obtain ⟨hi397, h⟩ := chk_el h
                          refine va_sld hx hb hX hbl hbA hS hi397 d_Law_law_397 ?_
                          obtain ⟨v398, I398, e398, h⟩ := ob2_el h
                          refine gl_Vi (As := [.int (xs (x3 + (1 : Int32)).toNatClampNeg), .int (xs (x3 + (2 : Int32)).toNatClampNeg), .int (xs (x3 + (3 : Int32)).toNatClampNeg)]) (rest := [.int v379]) (ci := 5) (C := R_Model) (T := F_Model) (N := 23) ⟨hx, hb, hml, hown, hall⟩ (c_Model_write l hT o2 e398) (cwV 3 hall (gV m_602 m_603 m_604 m_338 m_454) rfl rfl rfl (by decide +kernel) ⟨Nat.le_of_ble_eq_true rfl, Nat.le_of_ble_eq_true rfl⟩) ⟨Nat.le_of_ble_eq_true rfl, Nat.le_of_ble_eq_true rfl⟩ hK hP hS o2.1 (wE_5 o2.2) rfl rfl hl.1 rfl (Nat.le_of_ble_eq_true rfl) d_Law_law_398 (fun H locs hP hS => ?_)
                          refine lv_icmp_eq hx hb d_Law_law_401 rfl (fun hc => ?_) (fun hc => ?_)
                          · replace h := i_pos hc h
                            exact b_Law_law_656 cx ih _ _ _ _ _ _ _ o1 o2 h hP hS (lv_sub hl [0, 1, 2, 3] rfl)
                          · replace h := i_neg hc h
                            refine lv_iconst (v := 0) hx hb d_Law_law_404 (by decide) ?_
                            exact absurd (rt_el h).1 (by decide)
                        · replace h := i_neg hc9 h
                          by_cases hc10 : ((xs x3.toNatClampNeg) &&& (31 : Int32)) = 10
                          · replace h := i_pos hc10 h
                            refine sw_eqL hc10 ?_
                            refine lv_tableIn hx hb d_Law_law_42 (by decide) (by decide) rfl rfl ?_
                            refine lv_aload_n hx hb d_Law_law_406 rfl (lv_at hl 1 rfl) ?_
                            refine lv_aload_n hx hb d_Law_law_407 rfl (lv_at hl 0 rfl) ?_
                            refine lv_iload_n hx hb d_Law_law_408 rfl (lv_at hl 3 rfl) ?_
                            refine lv_iconst (v := 1) hx hb d_Law_law_409 (by decide) ?_
                            refine lv_iadd hx hb d_Law_law_410 ?_
                            obtain ⟨hi411, h⟩ := chk_el h
                            refine va_sld hx hb hX hbl hbA hS hi411 d_Law_law_411 ?_
                            obtain ⟨v412, I412, e412, h⟩ := ob2_el h
                            refine gl_Vi (As := [.int (xs (x3 + (1 : Int32)).toNatClampNeg)]) (rest := []) (ci := 4) (C := R_Store) (T := F_Store) (N := 4) ⟨hx, hb, hml, hown, hall⟩ (c_Store_commit l hT o1 e412) (cwV 1 hall (gV m_605 m_606 m_607 m_6 m_292) rfl rfl rfl (by decide +kernel) ⟨Nat.le_of_ble_eq_true rfl, Nat.le_of_ble_eq_true rfl⟩) ⟨Nat.le_of_ble_eq_true rfl, Nat.le_of_ble_eq_true rfl⟩ hK hP hS o1.1 (wE_4 o1.2) rfl rfl hl.1 rfl (Nat.le_of_ble_eq_true rfl) d_Law_law_412 (fun H locs hP hS => ?_)
                            refine lv_aload_n hx hb d_Law_law_415 rfl (lv_at hl 2 rfl) ?_
                            refine lv_aload_n hx hb d_Law_law_416 rfl (lv_at hl 0 rfl) ?_
                            refine lv_iload_n hx hb d_Law_law_417 rfl (lv_at hl 3 rfl) ?_
                            refine lv_iconst (v := 1) hx hb d_Law_law_418 (by decide) ?_
                            refine lv_iadd hx hb d_Law_law_419 ?_
                            obtain ⟨hi420, h⟩ := chk_el h
                            refine va_sld hx hb hX hbl hbA hS hi420 d_Law_law_420 ?_
                            obtain ⟨v421, I421, e421, h⟩ := ob2_el h
                            refine gl_Vi (As := [.int (xs (x3 + (1 : Int32)).toNatClampNeg)]) (rest := [.int v412]) (ci := 5) (C := R_Model) (T := F_Model) (N := 23) ⟨hx, hb, hml, hown, hall⟩ (c_Model_commit l hT o2 e421) (cwV 1 hall (gV m_608 m_609 m_610 m_338 m_470) rfl rfl rfl (by decide +kernel) ⟨Nat.le_of_ble_eq_true rfl, Nat.le_of_ble_eq_true rfl⟩) ⟨Nat.le_of_ble_eq_true rfl, Nat.le_of_ble_eq_true rfl⟩ hK hP hS o2.1 (wE_5 o2.2) rfl rfl hl.1 rfl (Nat.le_of_ble_eq_true rfl) d_Law_law_421 (fun H locs hP hS => ?_)
                            refine lv_icmp_eq hx hb d_Law_law_424 rfl (fun hc => ?_) (fun hc => ?_)
                            · replace h := i_pos hc h
                              exact b_Law_law_656 cx ih _ _ _ _ _ _ _ o1 o2 h hP hS (lv_sub hl [0, 1, 2, 3] rfl)
                            · replace h := i_neg hc h
                              refine lv_iconst (v := 0) hx hb d_Law_law_427 (by decide) ?_
                              exact absurd (rt_el h).1 (by decide)
                          · replace h := i_neg hc10 h
                            by_cases hc11 : ((xs x3.toNatClampNeg) &&& (31 : Int32)) = 11
                            · replace h := i_pos hc11 h
                              refine sw_eqL hc11 ?_
                              refine lv_tableIn hx hb d_Law_law_42 (by decide) (by decide) rfl rfl ?_
                              refine lv_aload_n hx hb d_Law_law_429 rfl (lv_at hl 1 rfl) ?_
                              refine lv_aload_n hx hb d_Law_law_430 rfl (lv_at hl 0 rfl) ?_
                              refine lv_iload_n hx hb d_Law_law_431 rfl (lv_at hl 3 rfl) ?_
                              refine lv_iconst (v := 1) hx hb d_Law_law_432 (by decide) ?_
                              refine lv_iadd hx hb d_Law_law_433 ?_
                              obtain ⟨hi434, h⟩ := chk_el h
                              refine va_sld hx hb hX hbl hbA hS hi434 d_Law_law_434 ?_
                              obtain ⟨v435, I435, e435, h⟩ := ob2_el h
                              refine gl_Vi (As := [.int (xs (x3 + (1 : Int32)).toNatClampNeg)]) (rest := []) (ci := 4) (C := R_Store) (T := F_Store) (N := 4) ⟨hx, hb, hml, hown, hall⟩ (c_Store_abort l hT o1 e435) (cwV 1 hall (gV m_611 m_612 m_613 m_6 m_293) rfl rfl rfl (by decide +kernel) ⟨Nat.le_of_ble_eq_true rfl, Nat.le_of_ble_eq_true rfl⟩) ⟨Nat.le_of_ble_eq_true rfl, Nat.le_of_ble_eq_true rfl⟩ hK hP hS o1.1 (wE_4 o1.2) rfl rfl hl.1 rfl (Nat.le_of_ble_eq_true rfl) d_Law_law_435 (fun H locs hP hS => ?_)
                              refine lv_aload_n hx hb d_Law_law_438 rfl (lv_at hl 2 rfl) ?_
                              refine lv_aload_n hx hb d_Law_law_439 rfl (lv_at hl 0 rfl) ?_
                              refine lv_iload_n hx hb d_Law_law_440 rfl (lv_at hl 3 rfl) ?_
                              refine lv_iconst (v := 1) hx hb d_Law_law_441 (by decide) ?_
                              refine lv_iadd hx hb d_Law_law_442 ?_
                              obtain ⟨hi443, h⟩ := chk_el h
                              refine va_sld hx hb hX hbl hbA hS hi443 d_Law_law_443 ?_
                              obtain ⟨v444, I444, e444, h⟩ := ob2_el h
                              refine gl_Vi (As := [.int (xs (x3 + (1 : Int32)).toNatClampNeg)]) (rest := [.int v435]) (ci := 5) (C := R_Model) (T := F_Model) (N := 23) ⟨hx, hb, hml, hown, hall⟩ (c_Model_abort l hT o2 e444) (cwV 1 hall (gV m_614 m_615 m_616 m_338 m_471) rfl rfl rfl (by decide +kernel) ⟨Nat.le_of_ble_eq_true rfl, Nat.le_of_ble_eq_true rfl⟩) ⟨Nat.le_of_ble_eq_true rfl, Nat.le_of_ble_eq_true rfl⟩ hK hP hS o2.1 (wE_5 o2.2) rfl rfl hl.1 rfl (Nat.le_of_ble_eq_true rfl) d_Law_law_444 (fun H locs hP hS => ?_)
                              refine lv_icmp_eq hx hb d_Law_law_447 rfl (fun hc => ?_) (fun hc => ?_)
                              · replace h := i_pos hc h
                                exact b_Law_law_656 cx ih _ _ _ _ _ _ _ o1 o2 h hP hS (lv_sub hl [0, 1, 2, 3] rfl)
                              · replace h := i_neg hc h
                                refine lv_iconst (v := 0) hx hb d_Law_law_450 (by decide) ?_
                                exact absurd (rt_el h).1 (by decide)
                            · replace h := i_neg hc11 h
                              by_cases hc12 : ((xs x3.toNatClampNeg) &&& (31 : Int32)) = 12
                              · replace h := i_pos hc12 h
                                refine sw_eqL hc12 ?_
                                refine lv_tableIn hx hb d_Law_law_42 (by decide) (by decide) rfl rfl ?_
                                refine lv_aload_n hx hb d_Law_law_452 rfl (lv_at hl 1 rfl) ?_
                                refine lv_aload_n hx hb d_Law_law_453 rfl (lv_at hl 0 rfl) ?_
                                refine lv_iload_n hx hb d_Law_law_454 rfl (lv_at hl 3 rfl) ?_
                                refine lv_iconst (v := 1) hx hb d_Law_law_455 (by decide) ?_
                                refine lv_iadd hx hb d_Law_law_456 ?_
                                obtain ⟨hi457, h⟩ := chk_el h
                                refine va_sld hx hb hX hbl hbA hS hi457 d_Law_law_457 ?_
                                obtain ⟨v458, I458, e458, h⟩ := ob2_el h
                                refine gl_Vi (As := [.int (xs (x3 + (1 : Int32)).toNatClampNeg)]) (rest := []) (ci := 4) (C := R_Store) (T := F_Store) (N := 4) ⟨hx, hb, hml, hown, hall⟩ (c_Store_step l hT o1 e458) (cwV 1 hall (gV m_617 m_618 m_619 m_6 m_313) rfl rfl rfl (by decide +kernel) ⟨Nat.le_of_ble_eq_true rfl, Nat.le_of_ble_eq_true rfl⟩) ⟨Nat.le_of_ble_eq_true rfl, Nat.le_of_ble_eq_true rfl⟩ hK hP hS o1.1 (wE_4 o1.2) rfl rfl hl.1 rfl (Nat.le_of_ble_eq_true rfl) d_Law_law_458 (fun H locs hP hS => ?_)
                                refine lv_aload_n hx hb d_Law_law_461 rfl (lv_at hl 2 rfl) ?_
                                refine lv_aload_n hx hb d_Law_law_462 rfl (lv_at hl 0 rfl) ?_
                                refine lv_iload_n hx hb d_Law_law_463 rfl (lv_at hl 3 rfl) ?_
                                refine lv_iconst (v := 1) hx hb d_Law_law_464 (by decide) ?_
                                refine lv_iadd hx hb d_Law_law_465 ?_
                                obtain ⟨hi466, h⟩ := chk_el h
                                refine va_sld hx hb hX hbl hbA hS hi466 d_Law_law_466 ?_
                                obtain ⟨v467, I467, e467, h⟩ := ob2_el h
                                refine gl_Vi (As := [.int (xs (x3 + (1 : Int32)).toNatClampNeg)]) (rest := [.int v458]) (ci := 5) (C := R_Model) (T := F_Model) (N := 23) ⟨hx, hb, hml, hown, hall⟩ (c_Model_step l hT o2 e467) (cwV 1 hall (gV m_620 m_621 m_622 m_338 m_481) rfl rfl rfl (by decide +kernel) ⟨Nat.le_of_ble_eq_true rfl, Nat.le_of_ble_eq_true rfl⟩) ⟨Nat.le_of_ble_eq_true rfl, Nat.le_of_ble_eq_true rfl⟩ hK hP hS o2.1 (wE_5 o2.2) rfl rfl hl.1 rfl (Nat.le_of_ble_eq_true rfl) d_Law_law_467 (fun H locs hP hS => ?_)
                                refine lv_icmp_eq hx hb d_Law_law_470 rfl (fun hc => ?_) (fun hc => ?_)
                                · replace h := i_pos hc h
                                  exact b_Law_law_656 cx ih _ _ _ _ _ _ _ o1 o2 h hP hS (lv_sub hl [0, 1, 2, 3] rfl)
                                · replace h := i_neg hc h
                                  refine lv_iconst (v := 0) hx hb d_Law_law_473 (by decide) ?_
                                  exact absurd (rt_el h).1 (by decide)
                              · replace h := i_neg hc12 h
                                by_cases hc13 : ((xs x3.toNatClampNeg) &&& (31 : Int32)) = 13
                                · replace h := i_pos hc13 h
                                  refine sw_eqL hc13 ?_
                                  refine lv_tableIn hx hb d_Law_law_42 (by decide) (by decide) rfl rfl ?_
                                  refine lv_aload_n hx hb d_Law_law_475 rfl (lv_at hl 1 rfl) ?_
                                  refine lv_aload_n hx hb d_Law_law_476 rfl (lv_at hl 0 rfl) ?_
                                  refine lv_iload_n hx hb d_Law_law_477 rfl (lv_at hl 3 rfl) ?_
                                  refine lv_iconst (v := 1) hx hb d_Law_law_478 (by decide) ?_
                                  refine lv_iadd hx hb d_Law_law_479 ?_
                                  obtain ⟨hi480, h⟩ := chk_el h
                                  refine va_sld hx hb hX hbl hbA hS hi480 d_Law_law_480 ?_
                                  obtain ⟨v481, e481, h⟩ := ob_el h
                                  refine gl_Vi (As := [.int (xs (x3 + (1 : Int32)).toNatClampNeg)]) (rest := []) (ci := 4) (C := R_Store) (T := F_Store) (N := 4) ⟨hx, hb, hml, hown, hall⟩ (c_Store_state l hT o1 e481) (cwV 1 hall (gV m_623 m_624 m_625 m_6 m_314) rfl rfl rfl (by decide +kernel) ⟨Nat.le_of_ble_eq_true rfl, Nat.le_of_ble_eq_true rfl⟩) ⟨Nat.le_of_ble_eq_true rfl, Nat.le_of_ble_eq_true rfl⟩ hK hP hS o1.1 (wE_4 o1.2) rfl rfl hl.1 rfl (Nat.le_of_ble_eq_true rfl) d_Law_law_481 (fun H locs hP hS => ?_)
                                  refine lv_aload_n hx hb d_Law_law_484 rfl (lv_at hl 2 rfl) ?_
                                  refine lv_aload_n hx hb d_Law_law_485 rfl (lv_at hl 0 rfl) ?_
                                  refine lv_iload_n hx hb d_Law_law_486 rfl (lv_at hl 3 rfl) ?_
                                  refine lv_iconst (v := 1) hx hb d_Law_law_487 (by decide) ?_
                                  refine lv_iadd hx hb d_Law_law_488 ?_
                                  obtain ⟨hi489, h⟩ := chk_el h
                                  refine va_sld hx hb hX hbl hbA hS hi489 d_Law_law_489 ?_
                                  obtain ⟨v490, e490, h⟩ := ob_el h
                                  refine gl_Vi (As := [.int (xs (x3 + (1 : Int32)).toNatClampNeg)]) (rest := [.int v481]) (ci := 5) (C := R_Model) (T := F_Model) (N := 23) ⟨hx, hb, hml, hown, hall⟩ (c_Model_state l hT o2 e490) (cwV 1 hall (gV m_626 m_627 m_628 m_338 m_482) rfl rfl rfl (by decide +kernel) ⟨Nat.le_of_ble_eq_true rfl, Nat.le_of_ble_eq_true rfl⟩) ⟨Nat.le_of_ble_eq_true rfl, Nat.le_of_ble_eq_true rfl⟩ hK hP hS o2.1 (wE_5 o2.2) rfl rfl hl.1 rfl (Nat.le_of_ble_eq_true rfl) d_Law_law_490 (fun H locs hP hS => ?_)
                                  refine lv_icmp_eq hx hb d_Law_law_493 rfl (fun hc => ?_) (fun hc => ?_)
                                  · replace h := i_pos hc h
                                    exact b_Law_law_656 cx ih _ _ _ _ _ _ _ o1 o2 h hP hS (lv_sub hl [0, 1, 2, 3] rfl)
                                  · replace h := i_neg hc h
                                    refine lv_iconst (v := 0) hx hb d_Law_law_496 (by decide) ?_
                                    exact absurd (rt_el h).1 (by decide)
                                · replace h := i_neg hc13 h
                                  by_cases hc14 : ((xs x3.toNatClampNeg) &&& (31 : Int32)) = 14
                                  · replace h := i_pos hc14 h
                                    refine sw_eqL hc14 ?_
                                    refine lv_tableIn hx hb d_Law_law_42 (by decide) (by decide) rfl rfl ?_
                                    refine lv_aload_n hx hb d_Law_law_498 rfl (lv_at hl 1 rfl) ?_
                                    refine lv_aload_n hx hb d_Law_law_499 rfl (lv_at hl 0 rfl) ?_
                                    refine lv_iload_n hx hb d_Law_law_500 rfl (lv_at hl 3 rfl) ?_
                                    refine lv_iconst (v := 1) hx hb d_Law_law_501 (by decide) ?_
                                    refine lv_iadd hx hb d_Law_law_502 ?_
                                    obtain ⟨hi503, h⟩ := chk_el h
                                    refine va_sld hx hb hX hbl hbA hS hi503 d_Law_law_503 ?_
                                    obtain ⟨v504, e504, h⟩ := ob_el h
                                    refine gl_Vi (As := [.int (xs (x3 + (1 : Int32)).toNatClampNeg)]) (rest := []) (ci := 4) (C := R_Store) (T := F_Store) (N := 4) ⟨hx, hb, hml, hown, hall⟩ (c_Store_stamp l hT o1 e504) (cwV 1 hall (gV m_629 m_630 m_631 m_6 m_315) rfl rfl rfl (by decide +kernel) ⟨Nat.le_of_ble_eq_true rfl, Nat.le_of_ble_eq_true rfl⟩) ⟨Nat.le_of_ble_eq_true rfl, Nat.le_of_ble_eq_true rfl⟩ hK hP hS o1.1 (wE_4 o1.2) rfl rfl hl.1 rfl (Nat.le_of_ble_eq_true rfl) d_Law_law_504 (fun H locs hP hS => ?_)
                                    refine lv_aload_n hx hb d_Law_law_507 rfl (lv_at hl 2 rfl) ?_
                                    refine lv_aload_n hx hb d_Law_law_508 rfl (lv_at hl 0 rfl) ?_
                                    refine lv_iload_n hx hb d_Law_law_509 rfl (lv_at hl 3 rfl) ?_
                                    refine lv_iconst (v := 1) hx hb d_Law_law_510 (by decide) ?_
                                    refine lv_iadd hx hb d_Law_law_511 ?_
                                    obtain ⟨hi512, h⟩ := chk_el h
                                    refine va_sld hx hb hX hbl hbA hS hi512 d_Law_law_512 ?_
                                    obtain ⟨v513, e513, h⟩ := ob_el h
                                    refine gl_Vi (As := [.int (xs (x3 + (1 : Int32)).toNatClampNeg)]) (rest := [.int v504]) (ci := 5) (C := R_Model) (T := F_Model) (N := 23) ⟨hx, hb, hml, hown, hall⟩ (c_Model_stamp l hT o2 e513) (cwV 1 hall (gV m_632 m_633 m_634 m_338 m_483) rfl rfl rfl (by decide +kernel) ⟨Nat.le_of_ble_eq_true rfl, Nat.le_of_ble_eq_true rfl⟩) ⟨Nat.le_of_ble_eq_true rfl, Nat.le_of_ble_eq_true rfl⟩ hK hP hS o2.1 (wE_5 o2.2) rfl rfl hl.1 rfl (Nat.le_of_ble_eq_true rfl) d_Law_law_513 (fun H locs hP hS => ?_)
                                    refine lv_icmp_eq hx hb d_Law_law_516 rfl (fun hc => ?_) (fun hc => ?_)
                                    · replace h := i_pos hc h
                                      exact b_Law_law_656 cx ih _ _ _ _ _ _ _ o1 o2 h hP hS (lv_sub hl [0, 1, 2, 3] rfl)
                                    · replace h := i_neg hc h
                                      refine lv_iconst (v := 0) hx hb d_Law_law_519 (by decide) ?_
                                      exact absurd (rt_el h).1 (by decide)
                                  · replace h := i_neg hc14 h
                                    by_cases hc15 : ((xs x3.toNatClampNeg) &&& (31 : Int32)) = 15
                                    · replace h := i_pos hc15 h
                                      refine sw_eqL hc15 ?_
                                      refine lv_tableIn hx hb d_Law_law_42 (by decide) (by decide) rfl rfl ?_
                                      refine lv_aload_n hx hb d_Law_law_521 rfl (lv_at hl 1 rfl) ?_
                                      refine lv_aload_n hx hb d_Law_law_522 rfl (lv_at hl 0 rfl) ?_
                                      refine lv_iload_n hx hb d_Law_law_523 rfl (lv_at hl 3 rfl) ?_
                                      refine lv_iconst (v := 1) hx hb d_Law_law_524 (by decide) ?_
                                      refine lv_iadd hx hb d_Law_law_525 ?_
                                      obtain ⟨hi526, h⟩ := chk_el h
                                      refine va_sld hx hb hX hbl hbA hS hi526 d_Law_law_526 ?_
                                      refine lv_aload_n hx hb d_Law_law_527 rfl (lv_at hl 0 rfl) ?_
                                      refine lv_iload_n hx hb d_Law_law_528 rfl (lv_at hl 3 rfl) ?_
                                      refine lv_iconst (v := 2) hx hb d_Law_law_529 (by decide) ?_
                                      refine lv_iadd hx hb d_Law_law_530 ?_
                                      obtain ⟨hi531, h⟩ := chk_el h
                                      refine va_sld hx hb hX hbl hbA hS hi531 d_Law_law_531 ?_
                                      refine lv_aload_n hx hb d_Law_law_532 rfl (lv_at hl 0 rfl) ?_
                                      refine lv_iload_n hx hb d_Law_law_533 rfl (lv_at hl 3 rfl) ?_
                                      refine lv_iconst (v := 3) hx hb d_Law_law_534 (by decide) ?_
                                      refine lv_iadd hx hb d_Law_law_535 ?_
                                      obtain ⟨hi536, h⟩ := chk_el h
                                      refine va_sld hx hb hX hbl hbA hS hi536 d_Law_law_536 ?_
                                      obtain ⟨v537, e537, h⟩ := ob_el h
                                      refine gl_Vi (As := [.int (xs (x3 + (1 : Int32)).toNatClampNeg), .int (xs (x3 + (2 : Int32)).toNatClampNeg), .int (xs (x3 + (3 : Int32)).toNatClampNeg)]) (rest := []) (ci := 4) (C := R_Store) (T := F_Store) (N := 4) ⟨hx, hb, hml, hown, hall⟩ (c_Store_snapshot l hT o1 e537) (cwV 3 hall (gV m_635 m_636 m_637 m_6 m_324) rfl rfl rfl (by decide +kernel) ⟨Nat.le_of_ble_eq_true rfl, Nat.le_of_ble_eq_true rfl⟩) ⟨Nat.le_of_ble_eq_true rfl, Nat.le_of_ble_eq_true rfl⟩ hK hP hS o1.1 (wE_4 o1.2) rfl rfl hl.1 rfl (Nat.le_of_ble_eq_true rfl) d_Law_law_537 (fun H locs hP hS => ?_)
                                      refine lv_aload_n hx hb d_Law_law_540 rfl (lv_at hl 2 rfl) ?_
                                      refine lv_aload_n hx hb d_Law_law_541 rfl (lv_at hl 0 rfl) ?_
                                      refine lv_iload_n hx hb d_Law_law_542 rfl (lv_at hl 3 rfl) ?_
                                      refine lv_iconst (v := 1) hx hb d_Law_law_543 (by decide) ?_
                                      refine lv_iadd hx hb d_Law_law_544 ?_
                                      obtain ⟨hi545, h⟩ := chk_el h
                                      refine va_sld hx hb hX hbl hbA hS hi545 d_Law_law_545 ?_
                                      refine lv_aload_n hx hb d_Law_law_546 rfl (lv_at hl 0 rfl) ?_
                                      refine lv_iload_n hx hb d_Law_law_547 rfl (lv_at hl 3 rfl) ?_
                                      refine lv_iconst (v := 2) hx hb d_Law_law_548 (by decide) ?_
                                      refine lv_iadd hx hb d_Law_law_549 ?_
                                      obtain ⟨hi550, h⟩ := chk_el h
                                      refine va_sld hx hb hX hbl hbA hS hi550 d_Law_law_550 ?_
                                      refine lv_aload_n hx hb d_Law_law_551 rfl (lv_at hl 0 rfl) ?_
                                      refine lv_iload_n hx hb d_Law_law_552 rfl (lv_at hl 3 rfl) ?_
                                      refine lv_iconst (v := 3) hx hb d_Law_law_553 (by decide) ?_
                                      refine lv_iadd hx hb d_Law_law_554 ?_
                                      obtain ⟨hi555, h⟩ := chk_el h
                                      refine va_sld hx hb hX hbl hbA hS hi555 d_Law_law_555 ?_
                                      obtain ⟨v556, e556, h⟩ := ob_el h
                                      refine gl_Vi (As := [.int (xs (x3 + (1 : Int32)).toNatClampNeg), .int (xs (x3 + (2 : Int32)).toNatClampNeg), .int (xs (x3 + (3 : Int32)).toNatClampNeg)]) (rest := [.int v537]) (ci := 5) (C := R_Model) (T := F_Model) (N := 23) ⟨hx, hb, hml, hown, hall⟩ (c_Model_snapshot l hT o2 e556) (cwV 3 hall (gV m_638 m_639 m_640 m_338 m_491) rfl rfl rfl (by decide +kernel) ⟨Nat.le_of_ble_eq_true rfl, Nat.le_of_ble_eq_true rfl⟩) ⟨Nat.le_of_ble_eq_true rfl, Nat.le_of_ble_eq_true rfl⟩ hK hP hS o2.1 (wE_5 o2.2) rfl rfl hl.1 rfl (Nat.le_of_ble_eq_true rfl) d_Law_law_556 (fun H locs hP hS => ?_)
                                      refine lv_icmp_eq hx hb d_Law_law_559 rfl (fun hc => ?_) (fun hc => ?_)
                                      · replace h := i_pos hc h
                                        exact b_Law_law_656 cx ih _ _ _ _ _ _ _ o1 o2 h hP hS (lv_sub hl [0, 1, 2, 3] rfl)
                                      · replace h := i_neg hc h
                                        refine lv_iconst (v := 0) hx hb d_Law_law_562 (by decide) ?_
                                        exact absurd (rt_el h).1 (by decide)
                                    · replace h := i_neg hc15 h
                                      by_cases hc16 : ((xs x3.toNatClampNeg) &&& (31 : Int32)) = 16
                                      · replace h := i_pos hc16 h
                                        refine sw_eqL hc16 ?_
                                        refine lv_tableIn hx hb d_Law_law_42 (by decide) (by decide) rfl rfl ?_
                                        refine lv_aload_n hx hb d_Law_law_564 rfl (lv_at hl 1 rfl) ?_
                                        refine lv_aload_n hx hb d_Law_law_565 rfl (lv_at hl 0 rfl) ?_
                                        refine lv_iload_n hx hb d_Law_law_566 rfl (lv_at hl 3 rfl) ?_
                                        refine lv_iconst (v := 1) hx hb d_Law_law_567 (by decide) ?_
                                        refine lv_iadd hx hb d_Law_law_568 ?_
                                        obtain ⟨hi569, h⟩ := chk_el h
                                        refine va_sld hx hb hX hbl hbA hS hi569 d_Law_law_569 ?_
                                        obtain ⟨v570, e570, h⟩ := ob_el h
                                        refine gl_Vi (As := [.int (xs (x3 + (1 : Int32)).toNatClampNeg)]) (rest := []) (ci := 4) (C := R_Store) (T := F_Store) (N := 4) ⟨hx, hb, hml, hown, hall⟩ (c_Store_safe l hT o1 e570) (cwV 1 hall (gV m_641 m_642 m_643 m_6 m_325) rfl rfl rfl (by decide +kernel) ⟨Nat.le_of_ble_eq_true rfl, Nat.le_of_ble_eq_true rfl⟩) ⟨Nat.le_of_ble_eq_true rfl, Nat.le_of_ble_eq_true rfl⟩ hK hP hS o1.1 (wE_4 o1.2) rfl rfl hl.1 rfl (Nat.le_of_ble_eq_true rfl) d_Law_law_570 (fun H locs hP hS => ?_)
                                        refine lv_aload_n hx hb d_Law_law_573 rfl (lv_at hl 2 rfl) ?_
                                        refine lv_aload_n hx hb d_Law_law_574 rfl (lv_at hl 0 rfl) ?_
                                        refine lv_iload_n hx hb d_Law_law_575 rfl (lv_at hl 3 rfl) ?_
                                        refine lv_iconst (v := 1) hx hb d_Law_law_576 (by decide) ?_
                                        refine lv_iadd hx hb d_Law_law_577 ?_
                                        obtain ⟨hi578, h⟩ := chk_el h
                                        refine va_sld hx hb hX hbl hbA hS hi578 d_Law_law_578 ?_
                                        obtain ⟨v579, e579, h⟩ := ob_el h
                                        refine gl_Vi (As := [.int (xs (x3 + (1 : Int32)).toNatClampNeg)]) (rest := [.int v570]) (ci := 5) (C := R_Model) (T := F_Model) (N := 23) ⟨hx, hb, hml, hown, hall⟩ (c_Model_safe l hT o2 e579) (cwV 1 hall (gV m_644 m_489 m_490 m_338 m_484) rfl rfl rfl (by decide +kernel) ⟨Nat.le_of_ble_eq_true rfl, Nat.le_of_ble_eq_true rfl⟩) ⟨Nat.le_of_ble_eq_true rfl, Nat.le_of_ble_eq_true rfl⟩ hK hP hS o2.1 (wE_5 o2.2) rfl rfl hl.1 rfl (Nat.le_of_ble_eq_true rfl) d_Law_law_579 (fun H locs hP hS => ?_)
                                        refine lv_icmp_eq hx hb d_Law_law_582 rfl (fun hc => ?_) (fun hc => ?_)
                                        · replace h := i_pos hc h
                                          exact b_Law_law_656 cx ih _ _ _ _ _ _ _ o1 o2 h hP hS (lv_sub hl [0, 1, 2, 3] rfl)
                                        · replace h := i_neg hc h
                                          refine lv_iconst (v := 0) hx hb d_Law_law_585 (by decide) ?_
                                          exact absurd (rt_el h).1 (by decide)
                                      · replace h := i_neg hc16 h
                                        by_cases hc17 : ((xs x3.toNatClampNeg) &&& (31 : Int32)) = 17
                                        · replace h := i_pos hc17 h
                                          refine sw_eqL hc17 ?_
                                          refine lv_tableIn hx hb d_Law_law_42 (by decide) (by decide) rfl rfl ?_
                                          refine lv_aload_n hx hb d_Law_law_587 rfl (lv_at hl 1 rfl) ?_
                                          refine lv_aload_n hx hb d_Law_law_588 rfl (lv_at hl 0 rfl) ?_
                                          refine lv_iload_n hx hb d_Law_law_589 rfl (lv_at hl 3 rfl) ?_
                                          refine lv_iconst (v := 1) hx hb d_Law_law_590 (by decide) ?_
                                          refine lv_iadd hx hb d_Law_law_591 ?_
                                          obtain ⟨hi592, h⟩ := chk_el h
                                          refine va_sld hx hb hX hbl hbA hS hi592 d_Law_law_592 ?_
                                          obtain ⟨v593, e593, h⟩ := ob_el h
                                          refine gl_Vi (As := [.int (xs (x3 + (1 : Int32)).toNatClampNeg)]) (rest := []) (ci := 4) (C := R_Store) (T := F_Store) (N := 4) ⟨hx, hb, hml, hown, hall⟩ (c_Store_length l hT o1 e593) (cwV 1 hall (gV m_645 m_646 m_647 m_6 m_326) rfl rfl rfl (by decide +kernel) ⟨Nat.le_of_ble_eq_true rfl, Nat.le_of_ble_eq_true rfl⟩) ⟨Nat.le_of_ble_eq_true rfl, Nat.le_of_ble_eq_true rfl⟩ hK hP hS o1.1 (wE_4 o1.2) rfl rfl hl.1 rfl (Nat.le_of_ble_eq_true rfl) d_Law_law_593 (fun H locs hP hS => ?_)
                                          refine lv_aload_n hx hb d_Law_law_596 rfl (lv_at hl 2 rfl) ?_
                                          refine lv_aload_n hx hb d_Law_law_597 rfl (lv_at hl 0 rfl) ?_
                                          refine lv_iload_n hx hb d_Law_law_598 rfl (lv_at hl 3 rfl) ?_
                                          refine lv_iconst (v := 1) hx hb d_Law_law_599 (by decide) ?_
                                          refine lv_iadd hx hb d_Law_law_600 ?_
                                          obtain ⟨hi601, h⟩ := chk_el h
                                          refine va_sld hx hb hX hbl hbA hS hi601 d_Law_law_601 ?_
                                          obtain ⟨v602, e602, h⟩ := ob_el h
                                          refine gl_Vi (As := [.int (xs (x3 + (1 : Int32)).toNatClampNeg)]) (rest := [.int v593]) (ci := 5) (C := R_Model) (T := F_Model) (N := 23) ⟨hx, hb, hml, hown, hall⟩ (c_Model_length l hT o2 e602) (cwV 1 hall (gV m_648 m_649 m_650 m_338 m_492) rfl rfl rfl (by decide +kernel) ⟨Nat.le_of_ble_eq_true rfl, Nat.le_of_ble_eq_true rfl⟩) ⟨Nat.le_of_ble_eq_true rfl, Nat.le_of_ble_eq_true rfl⟩ hK hP hS o2.1 (wE_5 o2.2) rfl rfl hl.1 rfl (Nat.le_of_ble_eq_true rfl) d_Law_law_602 (fun H locs hP hS => ?_)
                                          refine lv_icmp_eq hx hb d_Law_law_605 rfl (fun hc => ?_) (fun hc => ?_)
                                          · replace h := i_pos hc h
                                            exact b_Law_law_656 cx ih _ _ _ _ _ _ _ o1 o2 h hP hS (lv_sub hl [0, 1, 2, 3] rfl)
                                          · replace h := i_neg hc h
                                            refine lv_iconst (v := 0) hx hb d_Law_law_608 (by decide) ?_
                                            exact absurd (rt_el h).1 (by decide)
                                        · replace h := i_neg hc17 h
                                          by_cases hc18 : ((xs x3.toNatClampNeg) &&& (31 : Int32)) = 18
                                          · replace h := i_pos hc18 h
                                            refine sw_eqL hc18 ?_
                                            refine lv_tableIn hx hb d_Law_law_42 (by decide) (by decide) rfl rfl ?_
                                            refine lv_aload_n hx hb d_Law_law_610 rfl (lv_at hl 1 rfl) ?_
                                            refine lv_aload_n hx hb d_Law_law_611 rfl (lv_at hl 0 rfl) ?_
                                            refine lv_iload_n hx hb d_Law_law_612 rfl (lv_at hl 3 rfl) ?_
                                            refine lv_iconst (v := 1) hx hb d_Law_law_613 (by decide) ?_
                                            refine lv_iadd hx hb d_Law_law_614 ?_
                                            obtain ⟨hi615, h⟩ := chk_el h
                                            refine va_sld hx hb hX hbl hbA hS hi615 d_Law_law_615 ?_
                                            obtain ⟨v616, e616, h⟩ := ob_el h
                                            refine gl_Vi (As := [.int (xs (x3 + (1 : Int32)).toNatClampNeg)]) (rest := []) (ci := 4) (C := R_Store) (T := F_Store) (N := 4) ⟨hx, hb, hml, hown, hall⟩ (c_Store_known l hT o1 e616) (cwV 1 hall (gV m_651 m_652 m_653 m_6 m_327) rfl rfl rfl (by decide +kernel) ⟨Nat.le_of_ble_eq_true rfl, Nat.le_of_ble_eq_true rfl⟩) ⟨Nat.le_of_ble_eq_true rfl, Nat.le_of_ble_eq_true rfl⟩ hK hP hS o1.1 (wE_4 o1.2) rfl rfl hl.1 rfl (Nat.le_of_ble_eq_true rfl) d_Law_law_616 (fun H locs hP hS => ?_)
                                            refine lv_aload_n hx hb d_Law_law_619 rfl (lv_at hl 2 rfl) ?_
                                            refine lv_aload_n hx hb d_Law_law_620 rfl (lv_at hl 0 rfl) ?_
                                            refine lv_iload_n hx hb d_Law_law_621 rfl (lv_at hl 3 rfl) ?_
                                            refine lv_iconst (v := 1) hx hb d_Law_law_622 (by decide) ?_
                                            refine lv_iadd hx hb d_Law_law_623 ?_
                                            obtain ⟨hi624, h⟩ := chk_el h
                                            refine va_sld hx hb hX hbl hbA hS hi624 d_Law_law_624 ?_
                                            obtain ⟨v625, e625, h⟩ := ob_el h
                                            refine gl_Vi (As := [.int (xs (x3 + (1 : Int32)).toNatClampNeg)]) (rest := [.int v616]) (ci := 5) (C := R_Model) (T := F_Model) (N := 23) ⟨hx, hb, hml, hown, hall⟩ (c_Model_known l hT o2 e625) (cwV 1 hall (gV m_654 m_655 m_656 m_338 m_493) rfl rfl rfl (by decide +kernel) ⟨Nat.le_of_ble_eq_true rfl, Nat.le_of_ble_eq_true rfl⟩) ⟨Nat.le_of_ble_eq_true rfl, Nat.le_of_ble_eq_true rfl⟩ hK hP hS o2.1 (wE_5 o2.2) rfl rfl hl.1 rfl (Nat.le_of_ble_eq_true rfl) d_Law_law_625 (fun H locs hP hS => ?_)
                                            refine lv_icmp_eq hx hb d_Law_law_628 rfl (fun hc => ?_) (fun hc => ?_)
                                            · replace h := i_pos hc h
                                              exact b_Law_law_656 cx ih _ _ _ _ _ _ _ o1 o2 h hP hS (lv_sub hl [0, 1, 2, 3] rfl)
                                            · replace h := i_neg hc h
                                              refine lv_iconst (v := 0) hx hb d_Law_law_631 (by decide) ?_
                                              exact absurd (rt_el h).1 (by decide)
                                          · replace h := i_neg hc18 h
                                            by_cases hc19 : ((xs x3.toNatClampNeg) &&& (31 : Int32)) = 19
                                            · replace h := i_pos hc19 h
                                              refine sw_eqL hc19 ?_
                                              refine lv_tableIn hx hb d_Law_law_42 (by decide) (by decide) rfl rfl ?_
                                              refine lv_aload_n hx hb d_Law_law_633 rfl (lv_at hl 1 rfl) ?_
                                              refine lv_aload_n hx hb d_Law_law_634 rfl (lv_at hl 0 rfl) ?_
                                              refine lv_iload_n hx hb d_Law_law_635 rfl (lv_at hl 3 rfl) ?_
                                              refine lv_iconst (v := 1) hx hb d_Law_law_636 (by decide) ?_
                                              refine lv_iadd hx hb d_Law_law_637 ?_
                                              obtain ⟨hi638, h⟩ := chk_el h
                                              refine va_sld hx hb hX hbl hbA hS hi638 d_Law_law_638 ?_
                                              obtain ⟨v639, e639, h⟩ := ob_el h
                                              refine gl_Vi (As := [.int (xs (x3 + (1 : Int32)).toNatClampNeg)]) (rest := []) (ci := 4) (C := R_Store) (T := F_Store) (N := 4) ⟨hx, hb, hml, hown, hall⟩ (c_Store_leader l hT o1 e639) (cwV 1 hall (gV m_657 m_658 m_659 m_6 m_328) rfl rfl rfl (by decide +kernel) ⟨Nat.le_of_ble_eq_true rfl, Nat.le_of_ble_eq_true rfl⟩) ⟨Nat.le_of_ble_eq_true rfl, Nat.le_of_ble_eq_true rfl⟩ hK hP hS o1.1 (wE_4 o1.2) rfl rfl hl.1 rfl (Nat.le_of_ble_eq_true rfl) d_Law_law_639 (fun H locs hP hS => ?_)
                                              refine lv_aload_n hx hb d_Law_law_642 rfl (lv_at hl 2 rfl) ?_
                                              refine lv_aload_n hx hb d_Law_law_643 rfl (lv_at hl 0 rfl) ?_
                                              refine lv_iload_n hx hb d_Law_law_644 rfl (lv_at hl 3 rfl) ?_
                                              refine lv_iconst (v := 1) hx hb d_Law_law_645 (by decide) ?_
                                              refine lv_iadd hx hb d_Law_law_646 ?_
                                              obtain ⟨hi647, h⟩ := chk_el h
                                              refine va_sld hx hb hX hbl hbA hS hi647 d_Law_law_647 ?_
                                              obtain ⟨v648, e648, h⟩ := ob_el h
                                              refine gl_Vi (As := [.int (xs (x3 + (1 : Int32)).toNatClampNeg)]) (rest := [.int v639]) (ci := 5) (C := R_Model) (T := F_Model) (N := 23) ⟨hx, hb, hml, hown, hall⟩ (c_Model_leader l hT o2 e648) (cwV 1 hall (gV m_660 m_661 m_662 m_338 m_363) rfl rfl rfl (by decide +kernel) ⟨Nat.le_of_ble_eq_true rfl, Nat.le_of_ble_eq_true rfl⟩) ⟨Nat.le_of_ble_eq_true rfl, Nat.le_of_ble_eq_true rfl⟩ hK hP hS o2.1 (wE_5 o2.2) rfl rfl hl.1 rfl (Nat.le_of_ble_eq_true rfl) d_Law_law_648 (fun H locs hP hS => ?_)
                                              refine lv_icmp_eq hx hb d_Law_law_651 rfl (fun hc => ?_) (fun hc => ?_)
                                              · replace h := i_pos hc h
                                                exact b_Law_law_656 cx ih _ _ _ _ _ _ _ o1 o2 h hP hS (lv_sub hl [0, 1, 2, 3] rfl)
                                              · replace h := i_neg hc h
                                                refine lv_iconst (v := 0) hx hb d_Law_law_654 (by decide) ?_
                                                exact absurd (rt_el h).1 (by decide)
                                            · replace h := i_neg hc19 h
                                              refine lv_tableOut hx hb d_Law_law_42 (by have n0 := lv_neT hc0 (a := 0) rfl; have n1 := lv_neT hc1 (a := 1) rfl; have n2 := lv_neT hc2 (a := 2) rfl; have n3 := lv_neT hc3 (a := 3) rfl; have n4 := lv_neT hc4 (a := 4) rfl; have n5 := lv_neT hc5 (a := 5) rfl; have n6 := lv_neT hc6 (a := 6) rfl; have n7 := lv_neT hc7 (a := 7) rfl; have n8 := lv_neT hc8 (a := 8) rfl; have n9 := lv_neT hc9 (a := 9) rfl; have n10 := lv_neT hc10 (a := 10) rfl; have n11 := lv_neT hc11 (a := 11) rfl; have n12 := lv_neT hc12 (a := 12) rfl; have n13 := lv_neT hc13 (a := 13) rfl; have n14 := lv_neT hc14 (a := 14) rfl; have n15 := lv_neT hc15 (a := 15) rfl; have n16 := lv_neT hc16 (a := 16) rfl; have n17 := lv_neT hc17 (a := 17) rfl; have n18 := lv_neT hc18 (a := 18) rfl; have n19 := lv_neT hc19 (a := 19) rfl; omega) rfl ?_
                                              exact b_Law_law_656 cx ih _ _ _ _ _ _ _ o1 o2 h hP hS (lv_sub hl [0, 1, 2, 3] rfl)
end
