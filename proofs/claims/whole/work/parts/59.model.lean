theorem m_700 : (Jvm.Cond.code ({ cls := "StampedStoreModel", name := "<init>", desc := "(I)V" } : Jvm.MethodName) prog_7_method_1_code (3 : Nat) (Option.none : Option Jvm.ClassFile.FieldType)) ∈ w_all := gB (List.mem_append_right _ (List.mem_append_right _ (List.mem_append_right _ (List.mem_append_left _ (List.mem_of_getElem? (l := tables_1_3) (i := 24) rfl))))) rfl
theorem m_701 : (Jvm.Cond.methodLink "StampedStoreModel" (1 : Nat) ({ cls := "java/lang/Object", name := "<init>", desc := "()V" } : Jvm.MethodName)) ∈ w_all := gB (List.mem_append_right _ (List.mem_append_right _ (List.mem_append_right _ (List.mem_append_left _ (List.mem_of_getElem? (l := tables_1_3) (i := 25) rfl))))) rfl
abbrev b_Model_init : ByteArray := prog_7_method_1_code
def y_Model_init : MethodName := ⟨"StampedStoreModel", "<init>", "(I)V"⟩
def w_Model_init : List Cond := .code y_Model_init b_Model_init 3 none :: w_all
theorem d_Model_init_0 : decode b_Model_init 0 = .ok (.aload_n 0, 1) := by decide +kernel
theorem d_Model_init_1 : decode b_Model_init 1 = .ok (.invokespecial 1, 3) := by decide +kernel
theorem d_Model_init_4 : decode b_Model_init 4 = .ok (.aload_n 0, 1) := by decide +kernel
theorem d_Model_init_5 : decode b_Model_init 5 = .ok (.bipush 6, 2) := by decide +kernel
theorem d_Model_init_7 : decode b_Model_init 7 = .ok (.newarray .boolean, 2) := by decide +kernel
theorem d_Model_init_9 : decode b_Model_init 9 = .ok (.putfield 7, 3) := by decide +kernel
theorem d_Model_init_12 : decode b_Model_init 12 = .ok (.aload_n 0, 1) := by decide +kernel
theorem d_Model_init_13 : decode b_Model_init 13 = .ok (.bipush 6, 2) := by decide +kernel
theorem d_Model_init_15 : decode b_Model_init 15 = .ok (.newarray .int, 2) := by decide +kernel
theorem d_Model_init_17 : decode b_Model_init 17 = .ok (.putfield 13, 3) := by decide +kernel
theorem d_Model_init_20 : decode b_Model_init 20 = .ok (.aload_n 0, 1) := by decide +kernel
theorem d_Model_init_21 : decode b_Model_init 21 = .ok (.bipush 6, 2) := by decide +kernel
theorem d_Model_init_23 : decode b_Model_init 23 = .ok (.newarray .int, 2) := by decide +kernel
theorem d_Model_init_25 : decode b_Model_init 25 = .ok (.putfield 17, 3) := by decide +kernel
theorem d_Model_init_28 : decode b_Model_init 28 = .ok (.aload_n 0, 1) := by decide +kernel
theorem d_Model_init_29 : decode b_Model_init 29 = .ok (.bipush 6, 2) := by decide +kernel
theorem d_Model_init_31 : decode b_Model_init 31 = .ok (.newarray .int, 2) := by decide +kernel
theorem d_Model_init_33 : decode b_Model_init 33 = .ok (.putfield 20, 3) := by decide +kernel
theorem d_Model_init_36 : decode b_Model_init 36 = .ok (.aload_n 0, 1) := by decide +kernel
theorem d_Model_init_37 : decode b_Model_init 37 = .ok (.bipush 6, 2) := by decide +kernel
theorem d_Model_init_39 : decode b_Model_init 39 = .ok (.newarray .int, 2) := by decide +kernel
theorem d_Model_init_41 : decode b_Model_init 41 = .ok (.putfield 23, 3) := by decide +kernel
theorem d_Model_init_44 : decode b_Model_init 44 = .ok (.aload_n 0, 1) := by decide +kernel
theorem d_Model_init_45 : decode b_Model_init 45 = .ok (.bipush 6, 2) := by decide +kernel
theorem d_Model_init_47 : decode b_Model_init 47 = .ok (.newarray .boolean, 2) := by decide +kernel
theorem d_Model_init_49 : decode b_Model_init 49 = .ok (.putfield 26, 3) := by decide +kernel
theorem d_Model_init_52 : decode b_Model_init 52 = .ok (.aload_n 0, 1) := by decide +kernel
theorem d_Model_init_53 : decode b_Model_init 53 = .ok (.bipush 6, 2) := by decide +kernel
theorem d_Model_init_55 : decode b_Model_init 55 = .ok (.newarray .int, 2) := by decide +kernel
theorem d_Model_init_57 : decode b_Model_init 57 = .ok (.putfield 29, 3) := by decide +kernel
theorem d_Model_init_60 : decode b_Model_init 60 = .ok (.aload_n 0, 1) := by decide +kernel
theorem d_Model_init_61 : decode b_Model_init 61 = .ok (.bipush 6, 2) := by decide +kernel
theorem d_Model_init_63 : decode b_Model_init 63 = .ok (.newarray .int, 2) := by decide +kernel
theorem d_Model_init_65 : decode b_Model_init 65 = .ok (.putfield 32, 3) := by decide +kernel
theorem d_Model_init_68 : decode b_Model_init 68 = .ok (.aload_n 0, 1) := by decide +kernel
theorem d_Model_init_69 : decode b_Model_init 69 = .ok (.bipush 6, 2) := by decide +kernel
theorem d_Model_init_71 : decode b_Model_init 71 = .ok (.newarray .int, 2) := by decide +kernel
theorem d_Model_init_73 : decode b_Model_init 73 = .ok (.putfield 35, 3) := by decide +kernel
theorem d_Model_init_76 : decode b_Model_init 76 = .ok (.aload_n 0, 1) := by decide +kernel
theorem d_Model_init_77 : decode b_Model_init 77 = .ok (.sipush 360, 3) := by decide +kernel
theorem d_Model_init_80 : decode b_Model_init 80 = .ok (.newarray .int, 2) := by decide +kernel
theorem d_Model_init_82 : decode b_Model_init 82 = .ok (.putfield 38, 3) := by decide +kernel
theorem d_Model_init_85 : decode b_Model_init 85 = .ok (.aload_n 0, 1) := by decide +kernel
theorem d_Model_init_86 : decode b_Model_init 86 = .ok (.sipush 360, 3) := by decide +kernel
theorem d_Model_init_89 : decode b_Model_init 89 = .ok (.newarray .int, 2) := by decide +kernel
theorem d_Model_init_91 : decode b_Model_init 91 = .ok (.putfield 41, 3) := by decide +kernel
theorem d_Model_init_94 : decode b_Model_init 94 = .ok (.aload_n 0, 1) := by decide +kernel
theorem d_Model_init_95 : decode b_Model_init 95 = .ok (.sipush 360, 3) := by decide +kernel
theorem d_Model_init_98 : decode b_Model_init 98 = .ok (.newarray .int, 2) := by decide +kernel
theorem d_Model_init_100 : decode b_Model_init 100 = .ok (.putfield 44, 3) := by decide +kernel
theorem d_Model_init_103 : decode b_Model_init 103 = .ok (.aload_n 0, 1) := by decide +kernel
theorem d_Model_init_104 : decode b_Model_init 104 = .ok (.sipush 360, 3) := by decide +kernel
theorem d_Model_init_107 : decode b_Model_init 107 = .ok (.newarray .int, 2) := by decide +kernel
theorem d_Model_init_109 : decode b_Model_init 109 = .ok (.putfield 47, 3) := by decide +kernel
theorem d_Model_init_112 : decode b_Model_init 112 = .ok (.aload_n 0, 1) := by decide +kernel
theorem d_Model_init_113 : decode b_Model_init 113 = .ok (.sipush 360, 3) := by decide +kernel
theorem d_Model_init_116 : decode b_Model_init 116 = .ok (.newarray .int, 2) := by decide +kernel
theorem d_Model_init_118 : decode b_Model_init 118 = .ok (.putfield 50, 3) := by decide +kernel
theorem d_Model_init_121 : decode b_Model_init 121 = .ok (.aload_n 0, 1) := by decide +kernel
theorem d_Model_init_122 : decode b_Model_init 122 = .ok (.bipush 16, 2) := by decide +kernel
theorem d_Model_init_124 : decode b_Model_init 124 = .ok (.newarray .int, 2) := by decide +kernel
theorem d_Model_init_126 : decode b_Model_init 126 = .ok (.putfield 53, 3) := by decide +kernel
theorem d_Model_init_129 : decode b_Model_init 129 = .ok (.aload_n 0, 1) := by decide +kernel
theorem d_Model_init_130 : decode b_Model_init 130 = .ok (.bipush 16, 2) := by decide +kernel
theorem d_Model_init_132 : decode b_Model_init 132 = .ok (.newarray .int, 2) := by decide +kernel
theorem d_Model_init_134 : decode b_Model_init 134 = .ok (.putfield 56, 3) := by decide +kernel
theorem d_Model_init_137 : decode b_Model_init 137 = .ok (.aload_n 0, 1) := by decide +kernel
theorem d_Model_init_138 : decode b_Model_init 138 = .ok (.bipush 16, 2) := by decide +kernel
theorem d_Model_init_140 : decode b_Model_init 140 = .ok (.newarray .int, 2) := by decide +kernel
theorem d_Model_init_142 : decode b_Model_init 142 = .ok (.putfield 59, 3) := by decide +kernel
theorem d_Model_init_145 : decode b_Model_init 145 = .ok (.aload_n 0, 1) := by decide +kernel
theorem d_Model_init_146 : decode b_Model_init 146 = .ok (.sipush 128, 3) := by decide +kernel
theorem d_Model_init_149 : decode b_Model_init 149 = .ok (.newarray .int, 2) := by decide +kernel
theorem d_Model_init_151 : decode b_Model_init 151 = .ok (.putfield 62, 3) := by decide +kernel
theorem d_Model_init_154 : decode b_Model_init 154 = .ok (.aload_n 0, 1) := by decide +kernel
theorem d_Model_init_155 : decode b_Model_init 155 = .ok (.bipush 32, 2) := by decide +kernel
theorem d_Model_init_157 : decode b_Model_init 157 = .ok (.newarray .int, 2) := by decide +kernel
theorem d_Model_init_159 : decode b_Model_init 159 = .ok (.putfield 65, 3) := by decide +kernel
theorem d_Model_init_162 : decode b_Model_init 162 = .ok (.aload_n 0, 1) := by decide +kernel
theorem d_Model_init_163 : decode b_Model_init 163 = .ok (.bipush 16, 2) := by decide +kernel
theorem d_Model_init_165 : decode b_Model_init 165 = .ok (.newarray .int, 2) := by decide +kernel
theorem d_Model_init_167 : decode b_Model_init 167 = .ok (.putfield 68, 3) := by decide +kernel
theorem d_Model_init_170 : decode b_Model_init 170 = .ok (.aload_n 0, 1) := by decide +kernel
theorem d_Model_init_171 : decode b_Model_init 171 = .ok (.iload_n 1, 1) := by decide +kernel
theorem d_Model_init_172 : decode b_Model_init 172 = .ok (.ifCond .lt 13, 3) := by decide +kernel
theorem d_Model_init_175 : decode b_Model_init 175 = .ok (.iload_n 1, 1) := by decide +kernel
theorem d_Model_init_176 : decode b_Model_init 176 = .ok (.bipush 10, 2) := by decide +kernel
theorem d_Model_init_178 : decode b_Model_init 178 = .ok (.if_icmp .gt 7, 3) := by decide +kernel
theorem d_Model_init_181 : decode b_Model_init 181 = .ok (.iload_n 1, 1) := by decide +kernel
theorem d_Model_init_182 : decode b_Model_init 182 = .ok (.goto 4, 3) := by decide +kernel
theorem d_Model_init_185 : decode b_Model_init 185 = .ok (.iconst 5, 1) := by decide +kernel
theorem d_Model_init_186 : decode b_Model_init 186 = .ok (.putfield 71, 3) := by decide +kernel
theorem d_Model_init_189 : decode b_Model_init 189 = .ok (.iconst 0, 1) := by decide +kernel
theorem d_Model_init_190 : decode b_Model_init 190 = .ok (.istore_n 2, 1) := by decide +kernel
theorem d_Model_init_191 : decode b_Model_init 191 = .ok (.iload_n 2, 1) := by decide +kernel
theorem d_Model_init_192 : decode b_Model_init 192 = .ok (.bipush 6, 2) := by decide +kernel
theorem d_Model_init_194 : decode b_Model_init 194 = .ok (.if_icmp .ge 23, 3) := by decide +kernel
theorem d_Model_init_197 : decode b_Model_init 197 = .ok (.aload_n 0, 1) := by decide +kernel
theorem d_Model_init_198 : decode b_Model_init 198 = .ok (.getfield 20, 3) := by decide +kernel
theorem d_Model_init_201 : decode b_Model_init 201 = .ok (.iload_n 2, 1) := by decide +kernel
theorem d_Model_init_202 : decode b_Model_init 202 = .ok (.iconst (-1), 1) := by decide +kernel
theorem d_Model_init_203 : decode b_Model_init 203 = .ok (.iastore, 1) := by decide +kernel
theorem d_Model_init_204 : decode b_Model_init 204 = .ok (.aload_n 0, 1) := by decide +kernel
theorem d_Model_init_205 : decode b_Model_init 205 = .ok (.getfield 23, 3) := by decide +kernel
theorem d_Model_init_208 : decode b_Model_init 208 = .ok (.iload_n 2, 1) := by decide +kernel
theorem d_Model_init_209 : decode b_Model_init 209 = .ok (.iconst (-1), 1) := by decide +kernel
theorem d_Model_init_210 : decode b_Model_init 210 = .ok (.iastore, 1) := by decide +kernel
theorem d_Model_init_211 : decode b_Model_init 211 = .ok (.iinc 2 1, 3) := by decide +kernel
theorem d_Model_init_214 : decode b_Model_init 214 = .ok (.goto (-23), 3) := by decide +kernel
theorem d_Model_init_217 : decode b_Model_init 217 = .ok (.return_, 1) := by decide +kernel
section
variable {p : Program} {l : Launch} {e : Env} {Rm : Room} {s : State} {m : MethodId} {args : Array Value} {below : List Frame} {meth : Method} {c : Code} {g : Sg} {A : Nat → Prop} {L : List Nat} {f1 : Nat → va_E} {a0 q3 q4 : Nat} {x1 : Int32} {fs : List Value} {post : List Nat × (Nat → va_E) → Prop} {cells slots : Nat}
set_option maxHeartbeats 8000000 in
theorem model_loop (hx : p.tables.exec = Jvm.exec) (hb : c.code = b_Model_init) (hr : meth.sig.returnType = none) (hlk : meth.locks = false) (hown : s.vm.findClass R_Model = some m.cls) (hall : ∀ w ∈ w_all, w.before args s = true) (hK : wK2 g s) (hN : L.Nodup) (hLA : ∀ z, z ∈ L → A z) (hm0 : a0 ∈ L) (hm3 : q3 ∈ L) (hm4 : q4 ∈ L) (n3 : q3 ≠ a0) (n4 : q4 ≠ a0) (n34 : q3 ≠ q4) (hf5 : fs[5]? = some (.ref q3)) (hf6 : fs[6]? = some (.ref q4))
    (hpost : ∀ f, (∀ b, b ≠ q3 → b ≠ q4 → f b = f1 b) → f q3 = .inl (g.cI, 6, .inl (fun j => if j < 6 then (-1) else 0)) → f q4 = .inl (g.cI, 6, .inl (fun j => if j < 6 then (-1) else 0)) → post (L, f)) :
    ∀ (k i : Nat) (f : Nat → va_E) (H : Heap) (locs : List Loc) (ls : Array Slot), i + k = 6 → va_P g.1 classes (va_pl L f) H → va_S A s.heap H locs → (∀ b, b ≠ q3 → b ≠ q4 → f b = f1 b) → f a0 = .inr (5, fs) → f q3 = .inl (g.cI, 6, .inl (fun j => if j < i then (-1) else 0)) → f q4 = .inl (g.cI, 6, .inl (fun j => if j < i then (-1) else 0)) → lv_has ls 3 [(0, .ref a0), (2, .int (nI i))] →
      W p l e Rm s m args below meth c H locs cells slots (MQ below (Qn g A post) args s cells slots A) (F0 m 191 ls []) := by
  have key : ∀ (i : Nat) (w : Nat → Int32), i < 6 → w = (fun j => if j < i then (-1) else 0) → upd w (nI i).toNatClampNeg (-1) = fun j => if j < i + 1 then (-1) else 0 := by
    intro i w hi hw
    subst hw
    funext j
    rw [nI_clamp (by omega)]
    unfold upd
    by_cases h1 : j = i
    · subst h1; rw [if_pos rfl, if_pos (by omega)]
    · rw [if_neg h1]
      show (if j < i then (-1 : Int32) else 0) = _
      by_cases h2 : j < i
      · rw [if_pos h2, if_pos (by omega)]
      · rw [if_neg h2, if_neg (by omega)]
  intro k
  induction k with
  | zero =>
    intro i f H locs ls hik hP hS hO hf0 hf3 hf4 hl
    have hi : i = 6 := by omega
    subst hi
    refine lv_iload_n hx hb d_Model_init_191 rfl (lv_at hl 1 rfl) ?_
    refine lv_bipush (v := 6) hx hb d_Model_init_192 (by decide) ?_
    refine lv_icmp_ge hx hb d_Model_init_194 rfl (fun _ => ?_) (fun hc => absurd (by decide : (6 : Int32) ≤ nI 6) hc)
    exact pp_vret hx hb hr hlk hK hP hS hLA (hpost f hO hf3 hf4) d_Model_init_217
  | succ k ih =>
    intro i f H locs ls hik hP hS hO hf0 hf3 hf4 hl
    have hi : i < 6 := by omega
    refine lv_iload_n hx hb d_Model_init_191 rfl (lv_at hl 1 rfl) ?_
    refine lv_bipush (v := 6) hx hb d_Model_init_192 (by decide) ?_
    refine lv_icmp_ge hx hb d_Model_init_194 rfl (fun hc => absurd hc (nI_ge hi (by decide))) (fun _ => ?_)
    refine lv_aload_n hx hb d_Model_init_197 rfl (lv_at hl 0 rfl) ?_
    refine pp_get (C := R_Model) (T := F_Model) (N := 23) (ci := 5) hx hb hall i_Model hown hK hP hm0 hf0 rfl 5 (by decide) (hall _ m_387) (fun _ h9 => h9) hf5 d_Model_init_198 ?_
    refine lv_iload_n hx hb d_Model_init_201 rfl (lv_at hl 1 rfl) ?_
    refine lv_iconst (v := (-1)) hx hb d_Model_init_202 (by decide) ?_
    refine pp_iast hx hb hN hLA hK hP hS hm3 hf3 (vp_in_nI hi (by decide)) d_Model_init_203 (fun f2 H locs off hf3 hP hS => ?_)
    have hf0 := (off a0 n3.symm).trans hf0
    have hf4 := (off q4 n34.symm).trans hf4
    have hO2 : ∀ b, b ≠ q3 → b ≠ q4 → f2 b = f1 b := fun b h3 h4 => (off b h3).trans (hO b h3 h4)
    refine lv_aload_n hx hb d_Model_init_204 rfl (lv_at hl 0 rfl) ?_
    refine pp_get (C := R_Model) (T := F_Model) (N := 23) (ci := 5) hx hb hall i_Model hown hK hP hm0 hf0 rfl 6 (by decide) (hall _ m_383) (fun _ h9 => h9) hf6 d_Model_init_205 ?_
    refine lv_iload_n hx hb d_Model_init_208 rfl (lv_at hl 1 rfl) ?_
    refine lv_iconst (v := (-1)) hx hb d_Model_init_209 (by decide) ?_
    refine pp_iast hx hb hN hLA hK hP hS hm4 hf4 (vp_in_nI hi (by decide)) d_Model_init_210 (fun f3 H locs off3 hf4 hP hS => ?_)
    have hf0 := (off3 a0 n4.symm).trans hf0
    have hf3 := (off3 q3 n34).trans hf3
    refine lv_iinc (k := 1) (v := nI (i + 1)) (lv' := [(2, .int (nI (i + 1))), (0, .ref a0)]) hx hb d_Model_init_211 hl rfl (by rw [show Int32.ofInt 1 = (1 : Int32) from by decide]; exact nI_1 i) (Nat.le_of_ble_eq_true rfl) rfl (fun ls hl => ?_)
    refine lv_goto hx hb d_Model_init_214 rfl ?_
    exact ih (i + 1) f3 H locs ls (by omega) hP hS (fun b h3 h4 => (off3 b h4).trans (hO2 b h3 h4)) hf0 (by rw [hf3, key i _ hi rfl]) (by rw [hf4, key i _ hi rfl]) (lv_sub hl [1, 0] rfl)
end
set_option maxHeartbeats 8000000 in
set_option maxRecDepth 100000 in
theorem c_Model_init (l : Launch) {g : Sg} {L : List Nat} {f : Nat → va_E} {a0 : Nat} {x1 : Int32} (hN : L.Nodup) (hm_a0 : a0 ∈ L) (hf_a0 : f a0 = .inr (5, [.int 0, .int 0, .null, .null, .null, .null, .null, .null, .null, .null, .null, .null, .null, .null, .null, .null, .int 0, .null, .null, .null, .null, .null, .null])) : Ctn l g y_Model_init w_Model_init 1 12 20 2078 [.ref a0, .int x1] L f (fun u => ∃ q0 q1 q2 q3 q4 q5 q6 q7 q8 q9 q10 q11 q12 q13 q14 q15 q16 q17 q18 q19 : Nat, u.1 = L ++ [q0, q1, q2, q3, q4, q5, q6, q7, q8, q9, q10, q11, q12, q13, q14, q15, q16, q17, q18, q19] ∧ u.1.Nodup ∧ (∀ b, b ∈ L → b ≠ a0 → u.2 b = f b) ∧ u.2 a0 = .inr (5, [.int (epsOf x1), .int 0, .ref q0, .ref q1, .ref q2, .ref q3, .ref q4, .ref q5, .ref q6, .ref q7, .ref q8, .ref q9, .ref q10, .ref q11, .ref q12, .ref q13, .int 0, .ref q14, .ref q15, .ref q16, .ref q17, .ref q18, .ref q19]) ∧ u.2 q0 = .inl (g.cZ, 6, .inl (fun _ => 0)) ∧ u.2 q1 = .inl (g.cI, 6, .inl (fun _ => 0)) ∧ u.2 q2 = .inl (g.cI, 6, .inl (fun _ => 0)) ∧ u.2 q3 = .inl (g.cI, 6, .inl (fun j => if j < 6 then (-1) else 0)) ∧ u.2 q4 = .inl (g.cI, 6, .inl (fun j => if j < 6 then (-1) else 0)) ∧ u.2 q5 = .inl (g.cZ, 6, .inl (fun _ => 0)) ∧ u.2 q6 = .inl (g.cI, 6, .inl (fun _ => 0)) ∧ u.2 q7 = .inl (g.cI, 6, .inl (fun _ => 0)) ∧ u.2 q8 = .inl (g.cI, 6, .inl (fun _ => 0)) ∧ u.2 q9 = .inl (g.cI, 360, .inl (fun _ => 0)) ∧ u.2 q10 = .inl (g.cI, 360, .inl (fun _ => 0)) ∧ u.2 q11 = .inl (g.cI, 360, .inl (fun _ => 0)) ∧ u.2 q12 = .inl (g.cI, 360, .inl (fun _ => 0)) ∧ u.2 q13 = .inl (g.cI, 360, .inl (fun _ => 0)) ∧ u.2 q14 = .inl (g.cI, 16, .inl (fun _ => 0)) ∧ u.2 q15 = .inl (g.cI, 16, .inl (fun _ => 0)) ∧ u.2 q16 = .inl (g.cI, 16, .inl (fun _ => 0)) ∧ u.2 q17 = .inl (g.cI, 128, .inl (fun _ => 0)) ∧ u.2 q18 = .inl (g.cI, 32, .inl (fun _ => 0)) ∧ u.2 q19 = .inl (g.cI, 16, .inl (fun _ => 0))) := by
  intro sz
  refine Met.ofW (cc := b_Model_init) (maxL := 3) (ret := none) (by decide) rfl ?_
  intro p e s m args below meth c s₁ B hml hv
  obtain ⟨rfl, hsz, hP, hK⟩ := hv
  subst hsz
  have hts := atoms_spec (ws := w_Model_init) B.pre
  have hall : ∀ w ∈ w_all, w.before _ s = true := fun w hw => hts w (List.mem_cons_of_mem _ hw)
  have hown : s.vm.findClass R_Model = some m.cls := findClass_of_methodNamed B.named
  have hx := B.exec
  have hb := B.bytes
  have hr := B.returns
  have hlk := B.notSynchronized
  have hin : meth.name = "<init>" := (name_of_methodNamed B.named B.method).1
  have hl := lv_entry ([.ref a0, .int x1]) (n := 3) (Nat.le_of_ble_eq_true rfl)
  rw [lg_entry_eq]
  generalize (lg_sl ([.ref a0, .int x1]) ++ List.replicate (3 - (lg_sl ([.ref a0, .int x1])).length) Slot.unset).toArray = ls at hl ⊢
  have hl : lv_has ls 3 [(0, .ref a0), (1, .int x1)] := hl
  generalize hAe : An L s.heap.size = A
  have hA : ∀ q, s.heap.size ≤ q → A q := fun q h => by rw [← hAe]; exact Or.inr h
  have hLA : ∀ q, q ∈ L → A q := fun q h => by rw [← hAe]; exact Or.inl h
  have hS : va_S A s.heap s.heap [] := va_S.rf
  have hL0 : ∀ b, b ∈ L → b ∈ L := fun b h => h
  have hO : ∀ b, b ∈ L → b ≠ a0 → f b = f b := fun b _ _ => rfl
  refine lv_aload_n hx hb d_Model_init_0 rfl (lv_at hl 0 rfl) ?_
  refine W.objInit hx hb hown (hall _ m_701) (hall _ m_665) (hall _ m_666) rfl (by rw [hml]; exact hl.1) rfl d_Model_init_1 (Nat.le_of_ble_eq_true rfl) (Nat.le_of_ble_eq_true rfl) ?_
  refine W.eq (g2 := F0 m 4 ls []) rfl ?_
  refine lv_aload_n hx hb d_Model_init_4 rfl (lv_at hl 0 rfl) ?_
  refine lv_bipush (v := 6) hx hb d_Model_init_5 (by decide) ?_
  refine pp_newZ (N' := 6) hx hb (hall _ m_674) hN hLA hK hP hS hA (by decide) (by decide) (by decide) (Nat.le_of_ble_eq_true rfl) (Nat.le_of_ble_eq_true rfl) d_Model_init_7 (fun q0 f H hq hAq off hf_q0 hP hS => ?_)
  have nL_q0 : q0 ∉ L := fun h => hq (hL0 _ h)
  have hN := pNd hN hq
  have hLA := pLA hLA hAq
  have hf_a0 := (off a0 (fun e => hq (e ▸ hm_a0))).trans hf_a0
  have hO := pOn hO hL0 hq off
  have hL0 := pL0 (q := q0) hL0
  have hne_q0 : q0 ≠ a0 := fun e => hq (e ▸ hm_a0)
  have hm_a0 := pIn (q := q0) hm_a0
  have hm_q0 := pIs (L) q0
  refine pp_putF (ci := 5) (v := .ref q0) (ty := (.array .boolean)) (fs' := [.int 0, .int 0, .ref q0, .null, .null, .null, .null, .null, .null, .null, .null, .null, .null, .null, .null, .null, .int 0, .null, .null, .null, .null, .null, .null]) (C := R_Model) (T := F_Model) (N := 23) hx hb hall i_Model t_Model t_Model_ok n_Model hown hN hLA hK hP hS hm_a0 hf_a0 rfl 2 (by decide) (hall _ m_340) (fun _ h9 => h9) rfl hin rfl (by decide +kernel) rfl rfl (Nat.le_of_ble_eq_true rfl) rfl d_Model_init_9 (fun f H locs off hf_a0 hP hS => ?_)
  have hf_q0 := (off q0 hne_q0).trans hf_q0
  have hO := pOp hO off
  refine lv_aload_n hx hb d_Model_init_12 rfl (lv_at hl 0 rfl) ?_
  refine lv_bipush (v := 6) hx hb d_Model_init_13 (by decide) ?_
  refine pp_newI (N' := 6) hx hb (hall _ m_670) hN hLA hK hP hS hA (by decide) (by decide) (by decide) (Nat.le_of_ble_eq_true rfl) (Nat.le_of_ble_eq_true rfl) d_Model_init_15 (fun q1 f H hq hAq off hf_q1 hP hS => ?_)
  have nL_q1 : q1 ∉ L := fun h => hq (hL0 _ h)
  have hN := pNd hN hq
  have hLA := pLA hLA hAq
  have hf_a0 := (off a0 (fun e => hq (e ▸ hm_a0))).trans hf_a0
  have hf_q0 := (off q0 (fun e => hq (e ▸ hm_q0))).trans hf_q0
  have hO := pOn hO hL0 hq off
  have hL0 := pL0 (q := q1) hL0
  have hne_q1 : q1 ≠ a0 := fun e => hq (e ▸ hm_a0)
  have hm_a0 := pIn (q := q1) hm_a0
  have hm_q0 := pIn (q := q1) hm_q0
  have hm_q1 := pIs (L ++ [q0]) q1
  refine pp_putF (ci := 5) (v := .ref q1) (ty := (.array .int)) (fs' := [.int 0, .int 0, .ref q0, .ref q1, .null, .null, .null, .null, .null, .null, .null, .null, .null, .null, .null, .null, .int 0, .null, .null, .null, .null, .null, .null]) (C := R_Model) (T := F_Model) (N := 23) hx hb hall i_Model t_Model t_Model_ok n_Model hown hN hLA hK hP hS hm_a0 hf_a0 rfl 3 (by decide) (hall _ m_331) (fun _ h9 => h9) rfl hin rfl (by decide +kernel) rfl rfl (Nat.le_of_ble_eq_true rfl) rfl d_Model_init_17 (fun f H locs off hf_a0 hP hS => ?_)
  have hf_q0 := (off q0 hne_q0).trans hf_q0
  have hf_q1 := (off q1 hne_q1).trans hf_q1
  have hO := pOp hO off
  refine lv_aload_n hx hb d_Model_init_20 rfl (lv_at hl 0 rfl) ?_
  refine lv_bipush (v := 6) hx hb d_Model_init_21 (by decide) ?_
  refine pp_newI (N' := 6) hx hb (hall _ m_670) hN hLA hK hP hS hA (by decide) (by decide) (by decide) (Nat.le_of_ble_eq_true rfl) (Nat.le_of_ble_eq_true rfl) d_Model_init_23 (fun q2 f H hq hAq off hf_q2 hP hS => ?_)
  have nL_q2 : q2 ∉ L := fun h => hq (hL0 _ h)
  have hN := pNd hN hq
  have hLA := pLA hLA hAq
  have hf_a0 := (off a0 (fun e => hq (e ▸ hm_a0))).trans hf_a0
  have hf_q0 := (off q0 (fun e => hq (e ▸ hm_q0))).trans hf_q0
  have hf_q1 := (off q1 (fun e => hq (e ▸ hm_q1))).trans hf_q1
  have hO := pOn hO hL0 hq off
  have hL0 := pL0 (q := q2) hL0
  have hne_q2 : q2 ≠ a0 := fun e => hq (e ▸ hm_a0)
  have hm_a0 := pIn (q := q2) hm_a0
  have hm_q0 := pIn (q := q2) hm_q0
  have hm_q1 := pIn (q := q2) hm_q1
  have hm_q2 := pIs (L ++ [q0] ++ [q1]) q2
  refine pp_putF (ci := 5) (v := .ref q2) (ty := (.array .int)) (fs' := [.int 0, .int 0, .ref q0, .ref q1, .ref q2, .null, .null, .null, .null, .null, .null, .null, .null, .null, .null, .null, .int 0, .null, .null, .null, .null, .null, .null]) (C := R_Model) (T := F_Model) (N := 23) hx hb hall i_Model t_Model t_Model_ok n_Model hown hN hLA hK hP hS hm_a0 hf_a0 rfl 4 (by decide) (hall _ m_354) (fun _ h9 => h9) rfl hin rfl (by decide +kernel) rfl rfl (Nat.le_of_ble_eq_true rfl) rfl d_Model_init_25 (fun f H locs off hf_a0 hP hS => ?_)
  have hf_q0 := (off q0 hne_q0).trans hf_q0
  have hf_q1 := (off q1 hne_q1).trans hf_q1
  have hf_q2 := (off q2 hne_q2).trans hf_q2
  have hO := pOp hO off
  refine lv_aload_n hx hb d_Model_init_28 rfl (lv_at hl 0 rfl) ?_
  refine lv_bipush (v := 6) hx hb d_Model_init_29 (by decide) ?_
  refine pp_newI (N' := 6) hx hb (hall _ m_670) hN hLA hK hP hS hA (by decide) (by decide) (by decide) (Nat.le_of_ble_eq_true rfl) (Nat.le_of_ble_eq_true rfl) d_Model_init_31 (fun q3 f H hq hAq off hf_q3 hP hS => ?_)
  have nL_q3 : q3 ∉ L := fun h => hq (hL0 _ h)
  have nq_q0_q3 : q0 ≠ q3 := fun e => hq (e ▸ hm_q0)
  have nq_q1_q3 : q1 ≠ q3 := fun e => hq (e ▸ hm_q1)
  have nq_q2_q3 : q2 ≠ q3 := fun e => hq (e ▸ hm_q2)
  have hN := pNd hN hq
  have hLA := pLA hLA hAq
  have hf_a0 := (off a0 (fun e => hq (e ▸ hm_a0))).trans hf_a0
  have hf_q0 := (off q0 (fun e => hq (e ▸ hm_q0))).trans hf_q0
  have hf_q1 := (off q1 (fun e => hq (e ▸ hm_q1))).trans hf_q1
  have hf_q2 := (off q2 (fun e => hq (e ▸ hm_q2))).trans hf_q2
  have hO := pOn hO hL0 hq off
  have hL0 := pL0 (q := q3) hL0
  have hne_q3 : q3 ≠ a0 := fun e => hq (e ▸ hm_a0)
  have hm_a0 := pIn (q := q3) hm_a0
  have hm_q0 := pIn (q := q3) hm_q0
  have hm_q1 := pIn (q := q3) hm_q1
  have hm_q2 := pIn (q := q3) hm_q2
  have hm_q3 := pIs (L ++ [q0] ++ [q1] ++ [q2]) q3
  refine pp_putF (ci := 5) (v := .ref q3) (ty := (.array .int)) (fs' := [.int 0, .int 0, .ref q0, .ref q1, .ref q2, .ref q3, .null, .null, .null, .null, .null, .null, .null, .null, .null, .null, .int 0, .null, .null, .null, .null, .null, .null]) (C := R_Model) (T := F_Model) (N := 23) hx hb hall i_Model t_Model t_Model_ok n_Model hown hN hLA hK hP hS hm_a0 hf_a0 rfl 5 (by decide) (hall _ m_387) (fun _ h9 => h9) rfl hin rfl (by decide +kernel) rfl rfl (Nat.le_of_ble_eq_true rfl) rfl d_Model_init_33 (fun f H locs off hf_a0 hP hS => ?_)
  have hf_q0 := (off q0 hne_q0).trans hf_q0
  have hf_q1 := (off q1 hne_q1).trans hf_q1
  have hf_q2 := (off q2 hne_q2).trans hf_q2
  have hf_q3 := (off q3 hne_q3).trans hf_q3
  have hO := pOp hO off
  refine lv_aload_n hx hb d_Model_init_36 rfl (lv_at hl 0 rfl) ?_
  refine lv_bipush (v := 6) hx hb d_Model_init_37 (by decide) ?_
  refine pp_newI (N' := 6) hx hb (hall _ m_670) hN hLA hK hP hS hA (by decide) (by decide) (by decide) (Nat.le_of_ble_eq_true rfl) (Nat.le_of_ble_eq_true rfl) d_Model_init_39 (fun q4 f H hq hAq off hf_q4 hP hS => ?_)
  have nL_q4 : q4 ∉ L := fun h => hq (hL0 _ h)
  have nq_q0_q4 : q0 ≠ q4 := fun e => hq (e ▸ hm_q0)
  have nq_q1_q4 : q1 ≠ q4 := fun e => hq (e ▸ hm_q1)
  have nq_q2_q4 : q2 ≠ q4 := fun e => hq (e ▸ hm_q2)
  have nq_q3_q4 : q3 ≠ q4 := fun e => hq (e ▸ hm_q3)
  have hN := pNd hN hq
  have hLA := pLA hLA hAq
  have hf_a0 := (off a0 (fun e => hq (e ▸ hm_a0))).trans hf_a0
  have hf_q0 := (off q0 (fun e => hq (e ▸ hm_q0))).trans hf_q0
  have hf_q1 := (off q1 (fun e => hq (e ▸ hm_q1))).trans hf_q1
  have hf_q2 := (off q2 (fun e => hq (e ▸ hm_q2))).trans hf_q2
  have hf_q3 := (off q3 (fun e => hq (e ▸ hm_q3))).trans hf_q3
  have hO := pOn hO hL0 hq off
  have hL0 := pL0 (q := q4) hL0
  have hne_q4 : q4 ≠ a0 := fun e => hq (e ▸ hm_a0)
  have hm_a0 := pIn (q := q4) hm_a0
  have hm_q0 := pIn (q := q4) hm_q0
  have hm_q1 := pIn (q := q4) hm_q1
  have hm_q2 := pIn (q := q4) hm_q2
  have hm_q3 := pIn (q := q4) hm_q3
  have hm_q4 := pIs (L ++ [q0] ++ [q1] ++ [q2] ++ [q3]) q4
  refine pp_putF (ci := 5) (v := .ref q4) (ty := (.array .int)) (fs' := [.int 0, .int 0, .ref q0, .ref q1, .ref q2, .ref q3, .ref q4, .null, .null, .null, .null, .null, .null, .null, .null, .null, .int 0, .null, .null, .null, .null, .null, .null]) (C := R_Model) (T := F_Model) (N := 23) hx hb hall i_Model t_Model t_Model_ok n_Model hown hN hLA hK hP hS hm_a0 hf_a0 rfl 6 (by decide) (hall _ m_383) (fun _ h9 => h9) rfl hin rfl (by decide +kernel) rfl rfl (Nat.le_of_ble_eq_true rfl) rfl d_Model_init_41 (fun f H locs off hf_a0 hP hS => ?_)
  have hf_q0 := (off q0 hne_q0).trans hf_q0
  have hf_q1 := (off q1 hne_q1).trans hf_q1
  have hf_q2 := (off q2 hne_q2).trans hf_q2
  have hf_q3 := (off q3 hne_q3).trans hf_q3
  have hf_q4 := (off q4 hne_q4).trans hf_q4
  have hO := pOp hO off
  refine lv_aload_n hx hb d_Model_init_44 rfl (lv_at hl 0 rfl) ?_
  refine lv_bipush (v := 6) hx hb d_Model_init_45 (by decide) ?_
  refine pp_newZ (N' := 6) hx hb (hall _ m_674) hN hLA hK hP hS hA (by decide) (by decide) (by decide) (Nat.le_of_ble_eq_true rfl) (Nat.le_of_ble_eq_true rfl) d_Model_init_47 (fun q5 f H hq hAq off hf_q5 hP hS => ?_)
  have nL_q5 : q5 ∉ L := fun h => hq (hL0 _ h)
  have nq_q3_q5 : q3 ≠ q5 := fun e => hq (e ▸ hm_q3)
  have nq_q4_q5 : q4 ≠ q5 := fun e => hq (e ▸ hm_q4)
  have hN := pNd hN hq
  have hLA := pLA hLA hAq
  have hf_a0 := (off a0 (fun e => hq (e ▸ hm_a0))).trans hf_a0
  have hf_q0 := (off q0 (fun e => hq (e ▸ hm_q0))).trans hf_q0
  have hf_q1 := (off q1 (fun e => hq (e ▸ hm_q1))).trans hf_q1
  have hf_q2 := (off q2 (fun e => hq (e ▸ hm_q2))).trans hf_q2
  have hf_q3 := (off q3 (fun e => hq (e ▸ hm_q3))).trans hf_q3
  have hf_q4 := (off q4 (fun e => hq (e ▸ hm_q4))).trans hf_q4
  have hO := pOn hO hL0 hq off
  have hL0 := pL0 (q := q5) hL0
  have hne_q5 : q5 ≠ a0 := fun e => hq (e ▸ hm_a0)
  have hm_a0 := pIn (q := q5) hm_a0
  have hm_q0 := pIn (q := q5) hm_q0
  have hm_q1 := pIn (q := q5) hm_q1
  have hm_q2 := pIn (q := q5) hm_q2
  have hm_q3 := pIn (q := q5) hm_q3
  have hm_q4 := pIn (q := q5) hm_q4
  have hm_q5 := pIs (L ++ [q0] ++ [q1] ++ [q2] ++ [q3] ++ [q4]) q5
  refine pp_putF (ci := 5) (v := .ref q5) (ty := (.array .boolean)) (fs' := [.int 0, .int 0, .ref q0, .ref q1, .ref q2, .ref q3, .ref q4, .ref q5, .null, .null, .null, .null, .null, .null, .null, .null, .int 0, .null, .null, .null, .null, .null, .null]) (C := R_Model) (T := F_Model) (N := 23) hx hb hall i_Model t_Model t_Model_ok n_Model hown hN hLA hK hP hS hm_a0 hf_a0 rfl 7 (by decide) (hall _ m_341) (fun _ h9 => h9) rfl hin rfl (by decide +kernel) rfl rfl (Nat.le_of_ble_eq_true rfl) rfl d_Model_init_49 (fun f H locs off hf_a0 hP hS => ?_)
  have hf_q0 := (off q0 hne_q0).trans hf_q0
  have hf_q1 := (off q1 hne_q1).trans hf_q1
  have hf_q2 := (off q2 hne_q2).trans hf_q2
  have hf_q3 := (off q3 hne_q3).trans hf_q3
  have hf_q4 := (off q4 hne_q4).trans hf_q4
  have hf_q5 := (off q5 hne_q5).trans hf_q5
  have hO := pOp hO off
  refine lv_aload_n hx hb d_Model_init_52 rfl (lv_at hl 0 rfl) ?_
  refine lv_bipush (v := 6) hx hb d_Model_init_53 (by decide) ?_
  refine pp_newI (N' := 6) hx hb (hall _ m_670) hN hLA hK hP hS hA (by decide) (by decide) (by decide) (Nat.le_of_ble_eq_true rfl) (Nat.le_of_ble_eq_true rfl) d_Model_init_55 (fun q6 f H hq hAq off hf_q6 hP hS => ?_)
  have nL_q6 : q6 ∉ L := fun h => hq (hL0 _ h)
  have nq_q3_q6 : q3 ≠ q6 := fun e => hq (e ▸ hm_q3)
  have nq_q4_q6 : q4 ≠ q6 := fun e => hq (e ▸ hm_q4)
  have hN := pNd hN hq
  have hLA := pLA hLA hAq
  have hf_a0 := (off a0 (fun e => hq (e ▸ hm_a0))).trans hf_a0
  have hf_q0 := (off q0 (fun e => hq (e ▸ hm_q0))).trans hf_q0
  have hf_q1 := (off q1 (fun e => hq (e ▸ hm_q1))).trans hf_q1
  have hf_q2 := (off q2 (fun e => hq (e ▸ hm_q2))).trans hf_q2
  have hf_q3 := (off q3 (fun e => hq (e ▸ hm_q3))).trans hf_q3
  have hf_q4 := (off q4 (fun e => hq (e ▸ hm_q4))).trans hf_q4
  have hf_q5 := (off q5 (fun e => hq (e ▸ hm_q5))).trans hf_q5
  have hO := pOn hO hL0 hq off
  have hL0 := pL0 (q := q6) hL0
  have hne_q6 : q6 ≠ a0 := fun e => hq (e ▸ hm_a0)
  have hm_a0 := pIn (q := q6) hm_a0
  have hm_q0 := pIn (q := q6) hm_q0
  have hm_q1 := pIn (q := q6) hm_q1
  have hm_q2 := pIn (q := q6) hm_q2
  have hm_q3 := pIn (q := q6) hm_q3
  have hm_q4 := pIn (q := q6) hm_q4
  have hm_q5 := pIn (q := q6) hm_q5
  have hm_q6 := pIs (L ++ [q0] ++ [q1] ++ [q2] ++ [q3] ++ [q4] ++ [q5]) q6
  refine pp_putF (ci := 5) (v := .ref q6) (ty := (.array .int)) (fs' := [.int 0, .int 0, .ref q0, .ref q1, .ref q2, .ref q3, .ref q4, .ref q5, .ref q6, .null, .null, .null, .null, .null, .null, .null, .int 0, .null, .null, .null, .null, .null, .null]) (C := R_Model) (T := F_Model) (N := 23) hx hb hall i_Model t_Model t_Model_ok n_Model hown hN hLA hK hP hS hm_a0 hf_a0 rfl 8 (by decide) (hall _ m_347) (fun _ h9 => h9) rfl hin rfl (by decide +kernel) rfl rfl (Nat.le_of_ble_eq_true rfl) rfl d_Model_init_57 (fun f H locs off hf_a0 hP hS => ?_)
  have hf_q0 := (off q0 hne_q0).trans hf_q0
  have hf_q1 := (off q1 hne_q1).trans hf_q1
  have hf_q2 := (off q2 hne_q2).trans hf_q2
  have hf_q3 := (off q3 hne_q3).trans hf_q3
  have hf_q4 := (off q4 hne_q4).trans hf_q4
  have hf_q5 := (off q5 hne_q5).trans hf_q5
  have hf_q6 := (off q6 hne_q6).trans hf_q6
  have hO := pOp hO off
  refine lv_aload_n hx hb d_Model_init_60 rfl (lv_at hl 0 rfl) ?_
  refine lv_bipush (v := 6) hx hb d_Model_init_61 (by decide) ?_
  refine pp_newI (N' := 6) hx hb (hall _ m_670) hN hLA hK hP hS hA (by decide) (by decide) (by decide) (Nat.le_of_ble_eq_true rfl) (Nat.le_of_ble_eq_true rfl) d_Model_init_63 (fun q7 f H hq hAq off hf_q7 hP hS => ?_)
  have nL_q7 : q7 ∉ L := fun h => hq (hL0 _ h)
  have nq_q3_q7 : q3 ≠ q7 := fun e => hq (e ▸ hm_q3)
  have nq_q4_q7 : q4 ≠ q7 := fun e => hq (e ▸ hm_q4)
  have hN := pNd hN hq
  have hLA := pLA hLA hAq
  have hf_a0 := (off a0 (fun e => hq (e ▸ hm_a0))).trans hf_a0
  have hf_q0 := (off q0 (fun e => hq (e ▸ hm_q0))).trans hf_q0
  have hf_q1 := (off q1 (fun e => hq (e ▸ hm_q1))).trans hf_q1
  have hf_q2 := (off q2 (fun e => hq (e ▸ hm_q2))).trans hf_q2
  have hf_q3 := (off q3 (fun e => hq (e ▸ hm_q3))).trans hf_q3
  have hf_q4 := (off q4 (fun e => hq (e ▸ hm_q4))).trans hf_q4
  have hf_q5 := (off q5 (fun e => hq (e ▸ hm_q5))).trans hf_q5
  have hf_q6 := (off q6 (fun e => hq (e ▸ hm_q6))).trans hf_q6
  have hO := pOn hO hL0 hq off
  have hL0 := pL0 (q := q7) hL0
  have hne_q7 : q7 ≠ a0 := fun e => hq (e ▸ hm_a0)
  have hm_a0 := pIn (q := q7) hm_a0
  have hm_q0 := pIn (q := q7) hm_q0
  have hm_q1 := pIn (q := q7) hm_q1
  have hm_q2 := pIn (q := q7) hm_q2
  have hm_q3 := pIn (q := q7) hm_q3
  have hm_q4 := pIn (q := q7) hm_q4
  have hm_q5 := pIn (q := q7) hm_q5
  have hm_q6 := pIn (q := q7) hm_q6
  have hm_q7 := pIs (L ++ [q0] ++ [q1] ++ [q2] ++ [q3] ++ [q4] ++ [q5] ++ [q6]) q7
  refine pp_putF (ci := 5) (v := .ref q7) (ty := (.array .int)) (fs' := [.int 0, .int 0, .ref q0, .ref q1, .ref q2, .ref q3, .ref q4, .ref q5, .ref q6, .ref q7, .null, .null, .null, .null, .null, .null, .int 0, .null, .null, .null, .null, .null, .null]) (C := R_Model) (T := F_Model) (N := 23) hx hb hall i_Model t_Model t_Model_ok n_Model hown hN hLA hK hP hS hm_a0 hf_a0 rfl 9 (by decide) (hall _ m_366) (fun _ h9 => h9) rfl hin rfl (by decide +kernel) rfl rfl (Nat.le_of_ble_eq_true rfl) rfl d_Model_init_65 (fun f H locs off hf_a0 hP hS => ?_)
  have hf_q0 := (off q0 hne_q0).trans hf_q0
  have hf_q1 := (off q1 hne_q1).trans hf_q1
  have hf_q2 := (off q2 hne_q2).trans hf_q2
  have hf_q3 := (off q3 hne_q3).trans hf_q3
  have hf_q4 := (off q4 hne_q4).trans hf_q4
  have hf_q5 := (off q5 hne_q5).trans hf_q5
  have hf_q6 := (off q6 hne_q6).trans hf_q6
  have hf_q7 := (off q7 hne_q7).trans hf_q7
  have hO := pOp hO off
  refine lv_aload_n hx hb d_Model_init_68 rfl (lv_at hl 0 rfl) ?_
  refine lv_bipush (v := 6) hx hb d_Model_init_69 (by decide) ?_
  refine pp_newI (N' := 6) hx hb (hall _ m_670) hN hLA hK hP hS hA (by decide) (by decide) (by decide) (Nat.le_of_ble_eq_true rfl) (Nat.le_of_ble_eq_true rfl) d_Model_init_71 (fun q8 f H hq hAq off hf_q8 hP hS => ?_)
  have nL_q8 : q8 ∉ L := fun h => hq (hL0 _ h)
  have nq_q3_q8 : q3 ≠ q8 := fun e => hq (e ▸ hm_q3)
  have nq_q4_q8 : q4 ≠ q8 := fun e => hq (e ▸ hm_q4)
  have hN := pNd hN hq
  have hLA := pLA hLA hAq
  have hf_a0 := (off a0 (fun e => hq (e ▸ hm_a0))).trans hf_a0
  have hf_q0 := (off q0 (fun e => hq (e ▸ hm_q0))).trans hf_q0
  have hf_q1 := (off q1 (fun e => hq (e ▸ hm_q1))).trans hf_q1
  have hf_q2 := (off q2 (fun e => hq (e ▸ hm_q2))).trans hf_q2
  have hf_q3 := (off q3 (fun e => hq (e ▸ hm_q3))).trans hf_q3
  have hf_q4 := (off q4 (fun e => hq (e ▸ hm_q4))).trans hf_q4
  have hf_q5 := (off q5 (fun e => hq (e ▸ hm_q5))).trans hf_q5
  have hf_q6 := (off q6 (fun e => hq (e ▸ hm_q6))).trans hf_q6
  have hf_q7 := (off q7 (fun e => hq (e ▸ hm_q7))).trans hf_q7
  have hO := pOn hO hL0 hq off
  have hL0 := pL0 (q := q8) hL0
  have hne_q8 : q8 ≠ a0 := fun e => hq (e ▸ hm_a0)
  have hm_a0 := pIn (q := q8) hm_a0
  have hm_q0 := pIn (q := q8) hm_q0
  have hm_q1 := pIn (q := q8) hm_q1
  have hm_q2 := pIn (q := q8) hm_q2
  have hm_q3 := pIn (q := q8) hm_q3
  have hm_q4 := pIn (q := q8) hm_q4
  have hm_q5 := pIn (q := q8) hm_q5
  have hm_q6 := pIn (q := q8) hm_q6
  have hm_q7 := pIn (q := q8) hm_q7
  have hm_q8 := pIs (L ++ [q0] ++ [q1] ++ [q2] ++ [q3] ++ [q4] ++ [q5] ++ [q6] ++ [q7]) q8
  refine pp_putF (ci := 5) (v := .ref q8) (ty := (.array .int)) (fs' := [.int 0, .int 0, .ref q0, .ref q1, .ref q2, .ref q3, .ref q4, .ref q5, .ref q6, .ref q7, .ref q8, .null, .null, .null, .null, .null, .int 0, .null, .null, .null, .null, .null, .null]) (C := R_Model) (T := F_Model) (N := 23) hx hb hall i_Model t_Model t_Model_ok n_Model hown hN hLA hK hP hS hm_a0 hf_a0 rfl 10 (by decide) (hall _ m_349) (fun _ h9 => h9) rfl hin rfl (by decide +kernel) rfl rfl (Nat.le_of_ble_eq_true rfl) rfl d_Model_init_73 (fun f H locs off hf_a0 hP hS => ?_)
  have hf_q0 := (off q0 hne_q0).trans hf_q0
  have hf_q1 := (off q1 hne_q1).trans hf_q1
  have hf_q2 := (off q2 hne_q2).trans hf_q2
  have hf_q3 := (off q3 hne_q3).trans hf_q3
  have hf_q4 := (off q4 hne_q4).trans hf_q4
  have hf_q5 := (off q5 hne_q5).trans hf_q5
  have hf_q6 := (off q6 hne_q6).trans hf_q6
  have hf_q7 := (off q7 hne_q7).trans hf_q7
  have hf_q8 := (off q8 hne_q8).trans hf_q8
  have hO := pOp hO off
  refine lv_aload_n hx hb d_Model_init_76 rfl (lv_at hl 0 rfl) ?_
  refine lv_sipush (v := 360) hx hb d_Model_init_77 (by decide) ?_
  refine pp_newI (N' := 360) hx hb (hall _ m_670) hN hLA hK hP hS hA (by decide) (by decide) (by decide) (Nat.le_of_ble_eq_true rfl) (Nat.le_of_ble_eq_true rfl) d_Model_init_80 (fun q9 f H hq hAq off hf_q9 hP hS => ?_)
  have nL_q9 : q9 ∉ L := fun h => hq (hL0 _ h)
  have nq_q3_q9 : q3 ≠ q9 := fun e => hq (e ▸ hm_q3)
  have nq_q4_q9 : q4 ≠ q9 := fun e => hq (e ▸ hm_q4)
  have hN := pNd hN hq
  have hLA := pLA hLA hAq
  have hf_a0 := (off a0 (fun e => hq (e ▸ hm_a0))).trans hf_a0
  have hf_q0 := (off q0 (fun e => hq (e ▸ hm_q0))).trans hf_q0
  have hf_q1 := (off q1 (fun e => hq (e ▸ hm_q1))).trans hf_q1
  have hf_q2 := (off q2 (fun e => hq (e ▸ hm_q2))).trans hf_q2
  have hf_q3 := (off q3 (fun e => hq (e ▸ hm_q3))).trans hf_q3
  have hf_q4 := (off q4 (fun e => hq (e ▸ hm_q4))).trans hf_q4
  have hf_q5 := (off q5 (fun e => hq (e ▸ hm_q5))).trans hf_q5
  have hf_q6 := (off q6 (fun e => hq (e ▸ hm_q6))).trans hf_q6
  have hf_q7 := (off q7 (fun e => hq (e ▸ hm_q7))).trans hf_q7
  have hf_q8 := (off q8 (fun e => hq (e ▸ hm_q8))).trans hf_q8
  have hO := pOn hO hL0 hq off
  have hL0 := pL0 (q := q9) hL0
  have hne_q9 : q9 ≠ a0 := fun e => hq (e ▸ hm_a0)
  have hm_a0 := pIn (q := q9) hm_a0
  have hm_q0 := pIn (q := q9) hm_q0
  have hm_q1 := pIn (q := q9) hm_q1
  have hm_q2 := pIn (q := q9) hm_q2
  have hm_q3 := pIn (q := q9) hm_q3
  have hm_q4 := pIn (q := q9) hm_q4
  have hm_q5 := pIn (q := q9) hm_q5
  have hm_q6 := pIn (q := q9) hm_q6
  have hm_q7 := pIn (q := q9) hm_q7
  have hm_q8 := pIn (q := q9) hm_q8
  have hm_q9 := pIs (L ++ [q0] ++ [q1] ++ [q2] ++ [q3] ++ [q4] ++ [q5] ++ [q6] ++ [q7] ++ [q8]) q9
  refine pp_putF (ci := 5) (v := .ref q9) (ty := (.array .int)) (fs' := [.int 0, .int 0, .ref q0, .ref q1, .ref q2, .ref q3, .ref q4, .ref q5, .ref q6, .ref q7, .ref q8, .ref q9, .null, .null, .null, .null, .int 0, .null, .null, .null, .null, .null, .null]) (C := R_Model) (T := F_Model) (N := 23) hx hb hall i_Model t_Model t_Model_ok n_Model hown hN hLA hK hP hS hm_a0 hf_a0 rfl 11 (by decide) (hall _ m_353) (fun _ h9 => h9) rfl hin rfl (by decide +kernel) rfl rfl (Nat.le_of_ble_eq_true rfl) rfl d_Model_init_82 (fun f H locs off hf_a0 hP hS => ?_)
  have hf_q0 := (off q0 hne_q0).trans hf_q0
  have hf_q1 := (off q1 hne_q1).trans hf_q1
  have hf_q2 := (off q2 hne_q2).trans hf_q2
  have hf_q3 := (off q3 hne_q3).trans hf_q3
  have hf_q4 := (off q4 hne_q4).trans hf_q4
  have hf_q5 := (off q5 hne_q5).trans hf_q5
  have hf_q6 := (off q6 hne_q6).trans hf_q6
  have hf_q7 := (off q7 hne_q7).trans hf_q7
  have hf_q8 := (off q8 hne_q8).trans hf_q8
  have hf_q9 := (off q9 hne_q9).trans hf_q9
  have hO := pOp hO off
  refine lv_aload_n hx hb d_Model_init_85 rfl (lv_at hl 0 rfl) ?_
  refine lv_sipush (v := 360) hx hb d_Model_init_86 (by decide) ?_
  refine pp_newI (N' := 360) hx hb (hall _ m_670) hN hLA hK hP hS hA (by decide) (by decide) (by decide) (Nat.le_of_ble_eq_true rfl) (Nat.le_of_ble_eq_true rfl) d_Model_init_89 (fun q10 f H hq hAq off hf_q10 hP hS => ?_)
  have nL_q10 : q10 ∉ L := fun h => hq (hL0 _ h)
  have nq_q3_q10 : q3 ≠ q10 := fun e => hq (e ▸ hm_q3)
  have nq_q4_q10 : q4 ≠ q10 := fun e => hq (e ▸ hm_q4)
  have hN := pNd hN hq
  have hLA := pLA hLA hAq
  have hf_a0 := (off a0 (fun e => hq (e ▸ hm_a0))).trans hf_a0
  have hf_q0 := (off q0 (fun e => hq (e ▸ hm_q0))).trans hf_q0
  have hf_q1 := (off q1 (fun e => hq (e ▸ hm_q1))).trans hf_q1
  have hf_q2 := (off q2 (fun e => hq (e ▸ hm_q2))).trans hf_q2
  have hf_q3 := (off q3 (fun e => hq (e ▸ hm_q3))).trans hf_q3
  have hf_q4 := (off q4 (fun e => hq (e ▸ hm_q4))).trans hf_q4
  have hf_q5 := (off q5 (fun e => hq (e ▸ hm_q5))).trans hf_q5
  have hf_q6 := (off q6 (fun e => hq (e ▸ hm_q6))).trans hf_q6
  have hf_q7 := (off q7 (fun e => hq (e ▸ hm_q7))).trans hf_q7
  have hf_q8 := (off q8 (fun e => hq (e ▸ hm_q8))).trans hf_q8
  have hf_q9 := (off q9 (fun e => hq (e ▸ hm_q9))).trans hf_q9
  have hO := pOn hO hL0 hq off
  have hL0 := pL0 (q := q10) hL0
  have hne_q10 : q10 ≠ a0 := fun e => hq (e ▸ hm_a0)
  have hm_a0 := pIn (q := q10) hm_a0
  have hm_q0 := pIn (q := q10) hm_q0
  have hm_q1 := pIn (q := q10) hm_q1
  have hm_q2 := pIn (q := q10) hm_q2
  have hm_q3 := pIn (q := q10) hm_q3
  have hm_q4 := pIn (q := q10) hm_q4
  have hm_q5 := pIn (q := q10) hm_q5
  have hm_q6 := pIn (q := q10) hm_q6
  have hm_q7 := pIn (q := q10) hm_q7
  have hm_q8 := pIn (q := q10) hm_q8
  have hm_q9 := pIn (q := q10) hm_q9
  have hm_q10 := pIs (L ++ [q0] ++ [q1] ++ [q2] ++ [q3] ++ [q4] ++ [q5] ++ [q6] ++ [q7] ++ [q8] ++ [q9]) q10
  refine pp_putF (ci := 5) (v := .ref q10) (ty := (.array .int)) (fs' := [.int 0, .int 0, .ref q0, .ref q1, .ref q2, .ref q3, .ref q4, .ref q5, .ref q6, .ref q7, .ref q8, .ref q9, .ref q10, .null, .null, .null, .int 0, .null, .null, .null, .null, .null, .null]) (C := R_Model) (T := F_Model) (N := 23) hx hb hall i_Model t_Model t_Model_ok n_Model hown hN hLA hK hP hS hm_a0 hf_a0 rfl 12 (by decide) (hall _ m_367) (fun _ h9 => h9) rfl hin rfl (by decide +kernel) rfl rfl (Nat.le_of_ble_eq_true rfl) rfl d_Model_init_91 (fun f H locs off hf_a0 hP hS => ?_)
  have hf_q0 := (off q0 hne_q0).trans hf_q0
  have hf_q1 := (off q1 hne_q1).trans hf_q1
  have hf_q2 := (off q2 hne_q2).trans hf_q2
  have hf_q3 := (off q3 hne_q3).trans hf_q3
  have hf_q4 := (off q4 hne_q4).trans hf_q4
  have hf_q5 := (off q5 hne_q5).trans hf_q5
  have hf_q6 := (off q6 hne_q6).trans hf_q6
  have hf_q7 := (off q7 hne_q7).trans hf_q7
  have hf_q8 := (off q8 hne_q8).trans hf_q8
  have hf_q9 := (off q9 hne_q9).trans hf_q9
  have hf_q10 := (off q10 hne_q10).trans hf_q10
  have hO := pOp hO off
  refine lv_aload_n hx hb d_Model_init_94 rfl (lv_at hl 0 rfl) ?_
  refine lv_sipush (v := 360) hx hb d_Model_init_95 (by decide) ?_
  refine pp_newI (N' := 360) hx hb (hall _ m_670) hN hLA hK hP hS hA (by decide) (by decide) (by decide) (Nat.le_of_ble_eq_true rfl) (Nat.le_of_ble_eq_true rfl) d_Model_init_98 (fun q11 f H hq hAq off hf_q11 hP hS => ?_)
  have nL_q11 : q11 ∉ L := fun h => hq (hL0 _ h)
  have nq_q3_q11 : q3 ≠ q11 := fun e => hq (e ▸ hm_q3)
  have nq_q4_q11 : q4 ≠ q11 := fun e => hq (e ▸ hm_q4)
  have hN := pNd hN hq
  have hLA := pLA hLA hAq
  have hf_a0 := (off a0 (fun e => hq (e ▸ hm_a0))).trans hf_a0
  have hf_q0 := (off q0 (fun e => hq (e ▸ hm_q0))).trans hf_q0
  have hf_q1 := (off q1 (fun e => hq (e ▸ hm_q1))).trans hf_q1
  have hf_q2 := (off q2 (fun e => hq (e ▸ hm_q2))).trans hf_q2
  have hf_q3 := (off q3 (fun e => hq (e ▸ hm_q3))).trans hf_q3
  have hf_q4 := (off q4 (fun e => hq (e ▸ hm_q4))).trans hf_q4
  have hf_q5 := (off q5 (fun e => hq (e ▸ hm_q5))).trans hf_q5
  have hf_q6 := (off q6 (fun e => hq (e ▸ hm_q6))).trans hf_q6
  have hf_q7 := (off q7 (fun e => hq (e ▸ hm_q7))).trans hf_q7
  have hf_q8 := (off q8 (fun e => hq (e ▸ hm_q8))).trans hf_q8
  have hf_q9 := (off q9 (fun e => hq (e ▸ hm_q9))).trans hf_q9
  have hf_q10 := (off q10 (fun e => hq (e ▸ hm_q10))).trans hf_q10
  have hO := pOn hO hL0 hq off
  have hL0 := pL0 (q := q11) hL0
  have hne_q11 : q11 ≠ a0 := fun e => hq (e ▸ hm_a0)
  have hm_a0 := pIn (q := q11) hm_a0
  have hm_q0 := pIn (q := q11) hm_q0
  have hm_q1 := pIn (q := q11) hm_q1
  have hm_q2 := pIn (q := q11) hm_q2
  have hm_q3 := pIn (q := q11) hm_q3
  have hm_q4 := pIn (q := q11) hm_q4
  have hm_q5 := pIn (q := q11) hm_q5
  have hm_q6 := pIn (q := q11) hm_q6
  have hm_q7 := pIn (q := q11) hm_q7
  have hm_q8 := pIn (q := q11) hm_q8
  have hm_q9 := pIn (q := q11) hm_q9
  have hm_q10 := pIn (q := q11) hm_q10
  have hm_q11 := pIs (L ++ [q0] ++ [q1] ++ [q2] ++ [q3] ++ [q4] ++ [q5] ++ [q6] ++ [q7] ++ [q8] ++ [q9] ++ [q10]) q11
  refine pp_putF (ci := 5) (v := .ref q11) (ty := (.array .int)) (fs' := [.int 0, .int 0, .ref q0, .ref q1, .ref q2, .ref q3, .ref q4, .ref q5, .ref q6, .ref q7, .ref q8, .ref q9, .ref q10, .ref q11, .null, .null, .int 0, .null, .null, .null, .null, .null, .null]) (C := R_Model) (T := F_Model) (N := 23) hx hb hall i_Model t_Model t_Model_ok n_Model hown hN hLA hK hP hS hm_a0 hf_a0 rfl 13 (by decide) (hall _ m_364) (fun _ h9 => h9) rfl hin rfl (by decide +kernel) rfl rfl (Nat.le_of_ble_eq_true rfl) rfl d_Model_init_100 (fun f H locs off hf_a0 hP hS => ?_)
  have hf_q0 := (off q0 hne_q0).trans hf_q0
  have hf_q1 := (off q1 hne_q1).trans hf_q1
  have hf_q2 := (off q2 hne_q2).trans hf_q2
  have hf_q3 := (off q3 hne_q3).trans hf_q3
  have hf_q4 := (off q4 hne_q4).trans hf_q4
  have hf_q5 := (off q5 hne_q5).trans hf_q5
  have hf_q6 := (off q6 hne_q6).trans hf_q6
  have hf_q7 := (off q7 hne_q7).trans hf_q7
  have hf_q8 := (off q8 hne_q8).trans hf_q8
  have hf_q9 := (off q9 hne_q9).trans hf_q9
  have hf_q10 := (off q10 hne_q10).trans hf_q10
  have hf_q11 := (off q11 hne_q11).trans hf_q11
  have hO := pOp hO off
  refine lv_aload_n hx hb d_Model_init_103 rfl (lv_at hl 0 rfl) ?_
  refine lv_sipush (v := 360) hx hb d_Model_init_104 (by decide) ?_
  refine pp_newI (N' := 360) hx hb (hall _ m_670) hN hLA hK hP hS hA (by decide) (by decide) (by decide) (Nat.le_of_ble_eq_true rfl) (Nat.le_of_ble_eq_true rfl) d_Model_init_107 (fun q12 f H hq hAq off hf_q12 hP hS => ?_)
  have nL_q12 : q12 ∉ L := fun h => hq (hL0 _ h)
  have nq_q3_q12 : q3 ≠ q12 := fun e => hq (e ▸ hm_q3)
  have nq_q4_q12 : q4 ≠ q12 := fun e => hq (e ▸ hm_q4)
  have hN := pNd hN hq
  have hLA := pLA hLA hAq
  have hf_a0 := (off a0 (fun e => hq (e ▸ hm_a0))).trans hf_a0
  have hf_q0 := (off q0 (fun e => hq (e ▸ hm_q0))).trans hf_q0
  have hf_q1 := (off q1 (fun e => hq (e ▸ hm_q1))).trans hf_q1
  have hf_q2 := (off q2 (fun e => hq (e ▸ hm_q2))).trans hf_q2
  have hf_q3 := (off q3 (fun e => hq (e ▸ hm_q3))).trans hf_q3
  have hf_q4 := (off q4 (fun e => hq (e ▸ hm_q4))).trans hf_q4
  have hf_q5 := (off q5 (fun e => hq (e ▸ hm_q5))).trans hf_q5
  have hf_q6 := (off q6 (fun e => hq (e ▸ hm_q6))).trans hf_q6
  have hf_q7 := (off q7 (fun e => hq (e ▸ hm_q7))).trans hf_q7
  have hf_q8 := (off q8 (fun e => hq (e ▸ hm_q8))).trans hf_q8
  have hf_q9 := (off q9 (fun e => hq (e ▸ hm_q9))).trans hf_q9
  have hf_q10 := (off q10 (fun e => hq (e ▸ hm_q10))).trans hf_q10
  have hf_q11 := (off q11 (fun e => hq (e ▸ hm_q11))).trans hf_q11
  have hO := pOn hO hL0 hq off
  have hL0 := pL0 (q := q12) hL0
  have hne_q12 : q12 ≠ a0 := fun e => hq (e ▸ hm_a0)
  have hm_a0 := pIn (q := q12) hm_a0
  have hm_q0 := pIn (q := q12) hm_q0
  have hm_q1 := pIn (q := q12) hm_q1
  have hm_q2 := pIn (q := q12) hm_q2
  have hm_q3 := pIn (q := q12) hm_q3
  have hm_q4 := pIn (q := q12) hm_q4
  have hm_q5 := pIn (q := q12) hm_q5
  have hm_q6 := pIn (q := q12) hm_q6
  have hm_q7 := pIn (q := q12) hm_q7
  have hm_q8 := pIn (q := q12) hm_q8
  have hm_q9 := pIn (q := q12) hm_q9
  have hm_q10 := pIn (q := q12) hm_q10
  have hm_q11 := pIn (q := q12) hm_q11
  have hm_q12 := pIs (L ++ [q0] ++ [q1] ++ [q2] ++ [q3] ++ [q4] ++ [q5] ++ [q6] ++ [q7] ++ [q8] ++ [q9] ++ [q10] ++ [q11]) q12
  refine pp_putF (ci := 5) (v := .ref q12) (ty := (.array .int)) (fs' := [.int 0, .int 0, .ref q0, .ref q1, .ref q2, .ref q3, .ref q4, .ref q5, .ref q6, .ref q7, .ref q8, .ref q9, .ref q10, .ref q11, .ref q12, .null, .int 0, .null, .null, .null, .null, .null, .null]) (C := R_Model) (T := F_Model) (N := 23) hx hb hall i_Model t_Model t_Model_ok n_Model hown hN hLA hK hP hS hm_a0 hf_a0 rfl 14 (by decide) (hall _ m_370) (fun _ h9 => h9) rfl hin rfl (by decide +kernel) rfl rfl (Nat.le_of_ble_eq_true rfl) rfl d_Model_init_109 (fun f H locs off hf_a0 hP hS => ?_)
  have hf_q0 := (off q0 hne_q0).trans hf_q0
  have hf_q1 := (off q1 hne_q1).trans hf_q1
  have hf_q2 := (off q2 hne_q2).trans hf_q2
  have hf_q3 := (off q3 hne_q3).trans hf_q3
  have hf_q4 := (off q4 hne_q4).trans hf_q4
  have hf_q5 := (off q5 hne_q5).trans hf_q5
  have hf_q6 := (off q6 hne_q6).trans hf_q6
  have hf_q7 := (off q7 hne_q7).trans hf_q7
  have hf_q8 := (off q8 hne_q8).trans hf_q8
  have hf_q9 := (off q9 hne_q9).trans hf_q9
  have hf_q10 := (off q10 hne_q10).trans hf_q10
  have hf_q11 := (off q11 hne_q11).trans hf_q11
  have hf_q12 := (off q12 hne_q12).trans hf_q12
  have hO := pOp hO off
  refine lv_aload_n hx hb d_Model_init_112 rfl (lv_at hl 0 rfl) ?_
  refine lv_sipush (v := 360) hx hb d_Model_init_113 (by decide) ?_
  refine pp_newI (N' := 360) hx hb (hall _ m_670) hN hLA hK hP hS hA (by decide) (by decide) (by decide) (Nat.le_of_ble_eq_true rfl) (Nat.le_of_ble_eq_true rfl) d_Model_init_116 (fun q13 f H hq hAq off hf_q13 hP hS => ?_)
  have nL_q13 : q13 ∉ L := fun h => hq (hL0 _ h)
  have nq_q3_q13 : q3 ≠ q13 := fun e => hq (e ▸ hm_q3)
  have nq_q4_q13 : q4 ≠ q13 := fun e => hq (e ▸ hm_q4)
  have hN := pNd hN hq
  have hLA := pLA hLA hAq
  have hf_a0 := (off a0 (fun e => hq (e ▸ hm_a0))).trans hf_a0
  have hf_q0 := (off q0 (fun e => hq (e ▸ hm_q0))).trans hf_q0
  have hf_q1 := (off q1 (fun e => hq (e ▸ hm_q1))).trans hf_q1
  have hf_q2 := (off q2 (fun e => hq (e ▸ hm_q2))).trans hf_q2
  have hf_q3 := (off q3 (fun e => hq (e ▸ hm_q3))).trans hf_q3
  have hf_q4 := (off q4 (fun e => hq (e ▸ hm_q4))).trans hf_q4
  have hf_q5 := (off q5 (fun e => hq (e ▸ hm_q5))).trans hf_q5
  have hf_q6 := (off q6 (fun e => hq (e ▸ hm_q6))).trans hf_q6
  have hf_q7 := (off q7 (fun e => hq (e ▸ hm_q7))).trans hf_q7
  have hf_q8 := (off q8 (fun e => hq (e ▸ hm_q8))).trans hf_q8
  have hf_q9 := (off q9 (fun e => hq (e ▸ hm_q9))).trans hf_q9
  have hf_q10 := (off q10 (fun e => hq (e ▸ hm_q10))).trans hf_q10
  have hf_q11 := (off q11 (fun e => hq (e ▸ hm_q11))).trans hf_q11
  have hf_q12 := (off q12 (fun e => hq (e ▸ hm_q12))).trans hf_q12
  have hO := pOn hO hL0 hq off
  have hL0 := pL0 (q := q13) hL0
  have hne_q13 : q13 ≠ a0 := fun e => hq (e ▸ hm_a0)
  have hm_a0 := pIn (q := q13) hm_a0
  have hm_q0 := pIn (q := q13) hm_q0
  have hm_q1 := pIn (q := q13) hm_q1
  have hm_q2 := pIn (q := q13) hm_q2
  have hm_q3 := pIn (q := q13) hm_q3
  have hm_q4 := pIn (q := q13) hm_q4
  have hm_q5 := pIn (q := q13) hm_q5
  have hm_q6 := pIn (q := q13) hm_q6
  have hm_q7 := pIn (q := q13) hm_q7
  have hm_q8 := pIn (q := q13) hm_q8
  have hm_q9 := pIn (q := q13) hm_q9
  have hm_q10 := pIn (q := q13) hm_q10
  have hm_q11 := pIn (q := q13) hm_q11
  have hm_q12 := pIn (q := q13) hm_q12
  have hm_q13 := pIs (L ++ [q0] ++ [q1] ++ [q2] ++ [q3] ++ [q4] ++ [q5] ++ [q6] ++ [q7] ++ [q8] ++ [q9] ++ [q10] ++ [q11] ++ [q12]) q13
  refine pp_putF (ci := 5) (v := .ref q13) (ty := (.array .int)) (fs' := [.int 0, .int 0, .ref q0, .ref q1, .ref q2, .ref q3, .ref q4, .ref q5, .ref q6, .ref q7, .ref q8, .ref q9, .ref q10, .ref q11, .ref q12, .ref q13, .int 0, .null, .null, .null, .null, .null, .null]) (C := R_Model) (T := F_Model) (N := 23) hx hb hall i_Model t_Model t_Model_ok n_Model hown hN hLA hK hP hS hm_a0 hf_a0 rfl 15 (by decide) (hall _ m_365) (fun _ h9 => h9) rfl hin rfl (by decide +kernel) rfl rfl (Nat.le_of_ble_eq_true rfl) rfl d_Model_init_118 (fun f H locs off hf_a0 hP hS => ?_)
  have hf_q0 := (off q0 hne_q0).trans hf_q0
  have hf_q1 := (off q1 hne_q1).trans hf_q1
  have hf_q2 := (off q2 hne_q2).trans hf_q2
  have hf_q3 := (off q3 hne_q3).trans hf_q3
  have hf_q4 := (off q4 hne_q4).trans hf_q4
  have hf_q5 := (off q5 hne_q5).trans hf_q5
  have hf_q6 := (off q6 hne_q6).trans hf_q6
  have hf_q7 := (off q7 hne_q7).trans hf_q7
  have hf_q8 := (off q8 hne_q8).trans hf_q8
  have hf_q9 := (off q9 hne_q9).trans hf_q9
  have hf_q10 := (off q10 hne_q10).trans hf_q10
  have hf_q11 := (off q11 hne_q11).trans hf_q11
  have hf_q12 := (off q12 hne_q12).trans hf_q12
  have hf_q13 := (off q13 hne_q13).trans hf_q13
  have hO := pOp hO off
  refine lv_aload_n hx hb d_Model_init_121 rfl (lv_at hl 0 rfl) ?_
  refine lv_bipush (v := 16) hx hb d_Model_init_122 (by decide) ?_
  refine pp_newI (N' := 16) hx hb (hall _ m_670) hN hLA hK hP hS hA (by decide) (by decide) (by decide) (Nat.le_of_ble_eq_true rfl) (Nat.le_of_ble_eq_true rfl) d_Model_init_124 (fun q14 f H hq hAq off hf_q14 hP hS => ?_)
  have nL_q14 : q14 ∉ L := fun h => hq (hL0 _ h)
  have nq_q3_q14 : q3 ≠ q14 := fun e => hq (e ▸ hm_q3)
  have nq_q4_q14 : q4 ≠ q14 := fun e => hq (e ▸ hm_q4)
  have hN := pNd hN hq
  have hLA := pLA hLA hAq
  have hf_a0 := (off a0 (fun e => hq (e ▸ hm_a0))).trans hf_a0
  have hf_q0 := (off q0 (fun e => hq (e ▸ hm_q0))).trans hf_q0
  have hf_q1 := (off q1 (fun e => hq (e ▸ hm_q1))).trans hf_q1
  have hf_q2 := (off q2 (fun e => hq (e ▸ hm_q2))).trans hf_q2
  have hf_q3 := (off q3 (fun e => hq (e ▸ hm_q3))).trans hf_q3
  have hf_q4 := (off q4 (fun e => hq (e ▸ hm_q4))).trans hf_q4
  have hf_q5 := (off q5 (fun e => hq (e ▸ hm_q5))).trans hf_q5
  have hf_q6 := (off q6 (fun e => hq (e ▸ hm_q6))).trans hf_q6
  have hf_q7 := (off q7 (fun e => hq (e ▸ hm_q7))).trans hf_q7
  have hf_q8 := (off q8 (fun e => hq (e ▸ hm_q8))).trans hf_q8
  have hf_q9 := (off q9 (fun e => hq (e ▸ hm_q9))).trans hf_q9
  have hf_q10 := (off q10 (fun e => hq (e ▸ hm_q10))).trans hf_q10
  have hf_q11 := (off q11 (fun e => hq (e ▸ hm_q11))).trans hf_q11
  have hf_q12 := (off q12 (fun e => hq (e ▸ hm_q12))).trans hf_q12
  have hf_q13 := (off q13 (fun e => hq (e ▸ hm_q13))).trans hf_q13
  have hO := pOn hO hL0 hq off
  have hL0 := pL0 (q := q14) hL0
  have hne_q14 : q14 ≠ a0 := fun e => hq (e ▸ hm_a0)
  have hm_a0 := pIn (q := q14) hm_a0
  have hm_q0 := pIn (q := q14) hm_q0
  have hm_q1 := pIn (q := q14) hm_q1
  have hm_q2 := pIn (q := q14) hm_q2
  have hm_q3 := pIn (q := q14) hm_q3
  have hm_q4 := pIn (q := q14) hm_q4
  have hm_q5 := pIn (q := q14) hm_q5
  have hm_q6 := pIn (q := q14) hm_q6
  have hm_q7 := pIn (q := q14) hm_q7
  have hm_q8 := pIn (q := q14) hm_q8
  have hm_q9 := pIn (q := q14) hm_q9
  have hm_q10 := pIn (q := q14) hm_q10
  have hm_q11 := pIn (q := q14) hm_q11
  have hm_q12 := pIn (q := q14) hm_q12
  have hm_q13 := pIn (q := q14) hm_q13
  have hm_q14 := pIs (L ++ [q0] ++ [q1] ++ [q2] ++ [q3] ++ [q4] ++ [q5] ++ [q6] ++ [q7] ++ [q8] ++ [q9] ++ [q10] ++ [q11] ++ [q12] ++ [q13]) q14
  refine pp_putF (ci := 5) (v := .ref q14) (ty := (.array .int)) (fs' := [.int 0, .int 0, .ref q0, .ref q1, .ref q2, .ref q3, .ref q4, .ref q5, .ref q6, .ref q7, .ref q8, .ref q9, .ref q10, .ref q11, .ref q12, .ref q13, .int 0, .ref q14, .null, .null, .null, .null, .null]) (C := R_Model) (T := F_Model) (N := 23) hx hb hall i_Model t_Model t_Model_ok n_Model hown hN hLA hK hP hS hm_a0 hf_a0 rfl 17 (by decide) (hall _ m_449) (fun _ h9 => h9) rfl hin rfl (by decide +kernel) rfl rfl (Nat.le_of_ble_eq_true rfl) rfl d_Model_init_126 (fun f H locs off hf_a0 hP hS => ?_)
  have hf_q0 := (off q0 hne_q0).trans hf_q0
  have hf_q1 := (off q1 hne_q1).trans hf_q1
  have hf_q2 := (off q2 hne_q2).trans hf_q2
  have hf_q3 := (off q3 hne_q3).trans hf_q3
  have hf_q4 := (off q4 hne_q4).trans hf_q4
  have hf_q5 := (off q5 hne_q5).trans hf_q5
  have hf_q6 := (off q6 hne_q6).trans hf_q6
  have hf_q7 := (off q7 hne_q7).trans hf_q7
  have hf_q8 := (off q8 hne_q8).trans hf_q8
  have hf_q9 := (off q9 hne_q9).trans hf_q9
  have hf_q10 := (off q10 hne_q10).trans hf_q10
  have hf_q11 := (off q11 hne_q11).trans hf_q11
  have hf_q12 := (off q12 hne_q12).trans hf_q12
  have hf_q13 := (off q13 hne_q13).trans hf_q13
  have hf_q14 := (off q14 hne_q14).trans hf_q14
  have hO := pOp hO off
  refine lv_aload_n hx hb d_Model_init_129 rfl (lv_at hl 0 rfl) ?_
  refine lv_bipush (v := 16) hx hb d_Model_init_130 (by decide) ?_
  refine pp_newI (N' := 16) hx hb (hall _ m_670) hN hLA hK hP hS hA (by decide) (by decide) (by decide) (Nat.le_of_ble_eq_true rfl) (Nat.le_of_ble_eq_true rfl) d_Model_init_132 (fun q15 f H hq hAq off hf_q15 hP hS => ?_)
  have nL_q15 : q15 ∉ L := fun h => hq (hL0 _ h)
  have nq_q3_q15 : q3 ≠ q15 := fun e => hq (e ▸ hm_q3)
  have nq_q4_q15 : q4 ≠ q15 := fun e => hq (e ▸ hm_q4)
  have hN := pNd hN hq
  have hLA := pLA hLA hAq
  have hf_a0 := (off a0 (fun e => hq (e ▸ hm_a0))).trans hf_a0
  have hf_q0 := (off q0 (fun e => hq (e ▸ hm_q0))).trans hf_q0
  have hf_q1 := (off q1 (fun e => hq (e ▸ hm_q1))).trans hf_q1
  have hf_q2 := (off q2 (fun e => hq (e ▸ hm_q2))).trans hf_q2
  have hf_q3 := (off q3 (fun e => hq (e ▸ hm_q3))).trans hf_q3
  have hf_q4 := (off q4 (fun e => hq (e ▸ hm_q4))).trans hf_q4
  have hf_q5 := (off q5 (fun e => hq (e ▸ hm_q5))).trans hf_q5
  have hf_q6 := (off q6 (fun e => hq (e ▸ hm_q6))).trans hf_q6
  have hf_q7 := (off q7 (fun e => hq (e ▸ hm_q7))).trans hf_q7
  have hf_q8 := (off q8 (fun e => hq (e ▸ hm_q8))).trans hf_q8
  have hf_q9 := (off q9 (fun e => hq (e ▸ hm_q9))).trans hf_q9
  have hf_q10 := (off q10 (fun e => hq (e ▸ hm_q10))).trans hf_q10
  have hf_q11 := (off q11 (fun e => hq (e ▸ hm_q11))).trans hf_q11
  have hf_q12 := (off q12 (fun e => hq (e ▸ hm_q12))).trans hf_q12
  have hf_q13 := (off q13 (fun e => hq (e ▸ hm_q13))).trans hf_q13
  have hf_q14 := (off q14 (fun e => hq (e ▸ hm_q14))).trans hf_q14
  have hO := pOn hO hL0 hq off
  have hL0 := pL0 (q := q15) hL0
  have hne_q15 : q15 ≠ a0 := fun e => hq (e ▸ hm_a0)
  have hm_a0 := pIn (q := q15) hm_a0
  have hm_q0 := pIn (q := q15) hm_q0
  have hm_q1 := pIn (q := q15) hm_q1
  have hm_q2 := pIn (q := q15) hm_q2
  have hm_q3 := pIn (q := q15) hm_q3
  have hm_q4 := pIn (q := q15) hm_q4
  have hm_q5 := pIn (q := q15) hm_q5
  have hm_q6 := pIn (q := q15) hm_q6
  have hm_q7 := pIn (q := q15) hm_q7
  have hm_q8 := pIn (q := q15) hm_q8
  have hm_q9 := pIn (q := q15) hm_q9
  have hm_q10 := pIn (q := q15) hm_q10
  have hm_q11 := pIn (q := q15) hm_q11
  have hm_q12 := pIn (q := q15) hm_q12
  have hm_q13 := pIn (q := q15) hm_q13
  have hm_q14 := pIn (q := q15) hm_q14
  have hm_q15 := pIs (L ++ [q0] ++ [q1] ++ [q2] ++ [q3] ++ [q4] ++ [q5] ++ [q6] ++ [q7] ++ [q8] ++ [q9] ++ [q10] ++ [q11] ++ [q12] ++ [q13] ++ [q14]) q15
  refine pp_putF (ci := 5) (v := .ref q15) (ty := (.array .int)) (fs' := [.int 0, .int 0, .ref q0, .ref q1, .ref q2, .ref q3, .ref q4, .ref q5, .ref q6, .ref q7, .ref q8, .ref q9, .ref q10, .ref q11, .ref q12, .ref q13, .int 0, .ref q14, .ref q15, .null, .null, .null, .null]) (C := R_Model) (T := F_Model) (N := 23) hx hb hall i_Model t_Model t_Model_ok n_Model hown hN hLA hK hP hS hm_a0 hf_a0 rfl 18 (by decide) (hall _ m_422) (fun _ h9 => h9) rfl hin rfl (by decide +kernel) rfl rfl (Nat.le_of_ble_eq_true rfl) rfl d_Model_init_134 (fun f H locs off hf_a0 hP hS => ?_)
  have hf_q0 := (off q0 hne_q0).trans hf_q0
  have hf_q1 := (off q1 hne_q1).trans hf_q1
  have hf_q2 := (off q2 hne_q2).trans hf_q2
  have hf_q3 := (off q3 hne_q3).trans hf_q3
  have hf_q4 := (off q4 hne_q4).trans hf_q4
  have hf_q5 := (off q5 hne_q5).trans hf_q5
  have hf_q6 := (off q6 hne_q6).trans hf_q6
  have hf_q7 := (off q7 hne_q7).trans hf_q7
  have hf_q8 := (off q8 hne_q8).trans hf_q8
  have hf_q9 := (off q9 hne_q9).trans hf_q9
  have hf_q10 := (off q10 hne_q10).trans hf_q10
  have hf_q11 := (off q11 hne_q11).trans hf_q11
  have hf_q12 := (off q12 hne_q12).trans hf_q12
  have hf_q13 := (off q13 hne_q13).trans hf_q13
  have hf_q14 := (off q14 hne_q14).trans hf_q14
  have hf_q15 := (off q15 hne_q15).trans hf_q15
  have hO := pOp hO off
  refine lv_aload_n hx hb d_Model_init_137 rfl (lv_at hl 0 rfl) ?_
  refine lv_bipush (v := 16) hx hb d_Model_init_138 (by decide) ?_
  refine pp_newI (N' := 16) hx hb (hall _ m_670) hN hLA hK hP hS hA (by decide) (by decide) (by decide) (Nat.le_of_ble_eq_true rfl) (Nat.le_of_ble_eq_true rfl) d_Model_init_140 (fun q16 f H hq hAq off hf_q16 hP hS => ?_)
  have nL_q16 : q16 ∉ L := fun h => hq (hL0 _ h)
  have nq_q3_q16 : q3 ≠ q16 := fun e => hq (e ▸ hm_q3)
  have nq_q4_q16 : q4 ≠ q16 := fun e => hq (e ▸ hm_q4)
  have hN := pNd hN hq
  have hLA := pLA hLA hAq
  have hf_a0 := (off a0 (fun e => hq (e ▸ hm_a0))).trans hf_a0
  have hf_q0 := (off q0 (fun e => hq (e ▸ hm_q0))).trans hf_q0
  have hf_q1 := (off q1 (fun e => hq (e ▸ hm_q1))).trans hf_q1
  have hf_q2 := (off q2 (fun e => hq (e ▸ hm_q2))).trans hf_q2
  have hf_q3 := (off q3 (fun e => hq (e ▸ hm_q3))).trans hf_q3
  have hf_q4 := (off q4 (fun e => hq (e ▸ hm_q4))).trans hf_q4
  have hf_q5 := (off q5 (fun e => hq (e ▸ hm_q5))).trans hf_q5
  have hf_q6 := (off q6 (fun e => hq (e ▸ hm_q6))).trans hf_q6
  have hf_q7 := (off q7 (fun e => hq (e ▸ hm_q7))).trans hf_q7
  have hf_q8 := (off q8 (fun e => hq (e ▸ hm_q8))).trans hf_q8
  have hf_q9 := (off q9 (fun e => hq (e ▸ hm_q9))).trans hf_q9
  have hf_q10 := (off q10 (fun e => hq (e ▸ hm_q10))).trans hf_q10
  have hf_q11 := (off q11 (fun e => hq (e ▸ hm_q11))).trans hf_q11
  have hf_q12 := (off q12 (fun e => hq (e ▸ hm_q12))).trans hf_q12
  have hf_q13 := (off q13 (fun e => hq (e ▸ hm_q13))).trans hf_q13
  have hf_q14 := (off q14 (fun e => hq (e ▸ hm_q14))).trans hf_q14
  have hf_q15 := (off q15 (fun e => hq (e ▸ hm_q15))).trans hf_q15
  have hO := pOn hO hL0 hq off
  have hL0 := pL0 (q := q16) hL0
  have hne_q16 : q16 ≠ a0 := fun e => hq (e ▸ hm_a0)
  have hm_a0 := pIn (q := q16) hm_a0
  have hm_q0 := pIn (q := q16) hm_q0
  have hm_q1 := pIn (q := q16) hm_q1
  have hm_q2 := pIn (q := q16) hm_q2
  have hm_q3 := pIn (q := q16) hm_q3
  have hm_q4 := pIn (q := q16) hm_q4
  have hm_q5 := pIn (q := q16) hm_q5
  have hm_q6 := pIn (q := q16) hm_q6
  have hm_q7 := pIn (q := q16) hm_q7
  have hm_q8 := pIn (q := q16) hm_q8
  have hm_q9 := pIn (q := q16) hm_q9
  have hm_q10 := pIn (q := q16) hm_q10
  have hm_q11 := pIn (q := q16) hm_q11
  have hm_q12 := pIn (q := q16) hm_q12
  have hm_q13 := pIn (q := q16) hm_q13
  have hm_q14 := pIn (q := q16) hm_q14
  have hm_q15 := pIn (q := q16) hm_q15
  have hm_q16 := pIs (L ++ [q0] ++ [q1] ++ [q2] ++ [q3] ++ [q4] ++ [q5] ++ [q6] ++ [q7] ++ [q8] ++ [q9] ++ [q10] ++ [q11] ++ [q12] ++ [q13] ++ [q14] ++ [q15]) q16
  refine pp_putF (ci := 5) (v := .ref q16) (ty := (.array .int)) (fs' := [.int 0, .int 0, .ref q0, .ref q1, .ref q2, .ref q3, .ref q4, .ref q5, .ref q6, .ref q7, .ref q8, .ref q9, .ref q10, .ref q11, .ref q12, .ref q13, .int 0, .ref q14, .ref q15, .ref q16, .null, .null, .null]) (C := R_Model) (T := F_Model) (N := 23) hx hb hall i_Model t_Model t_Model_ok n_Model hown hN hLA hK hP hS hm_a0 hf_a0 rfl 19 (by decide) (hall _ m_423) (fun _ h9 => h9) rfl hin rfl (by decide +kernel) rfl rfl (Nat.le_of_ble_eq_true rfl) rfl d_Model_init_142 (fun f H locs off hf_a0 hP hS => ?_)
  have hf_q0 := (off q0 hne_q0).trans hf_q0
  have hf_q1 := (off q1 hne_q1).trans hf_q1
  have hf_q2 := (off q2 hne_q2).trans hf_q2
  have hf_q3 := (off q3 hne_q3).trans hf_q3
  have hf_q4 := (off q4 hne_q4).trans hf_q4
  have hf_q5 := (off q5 hne_q5).trans hf_q5
  have hf_q6 := (off q6 hne_q6).trans hf_q6
  have hf_q7 := (off q7 hne_q7).trans hf_q7
  have hf_q8 := (off q8 hne_q8).trans hf_q8
  have hf_q9 := (off q9 hne_q9).trans hf_q9
  have hf_q10 := (off q10 hne_q10).trans hf_q10
  have hf_q11 := (off q11 hne_q11).trans hf_q11
  have hf_q12 := (off q12 hne_q12).trans hf_q12
  have hf_q13 := (off q13 hne_q13).trans hf_q13
  have hf_q14 := (off q14 hne_q14).trans hf_q14
  have hf_q15 := (off q15 hne_q15).trans hf_q15
  have hf_q16 := (off q16 hne_q16).trans hf_q16
  have hO := pOp hO off
  refine lv_aload_n hx hb d_Model_init_145 rfl (lv_at hl 0 rfl) ?_
  refine lv_sipush (v := 128) hx hb d_Model_init_146 (by decide) ?_
  refine pp_newI (N' := 128) hx hb (hall _ m_670) hN hLA hK hP hS hA (by decide) (by decide) (by decide) (Nat.le_of_ble_eq_true rfl) (Nat.le_of_ble_eq_true rfl) d_Model_init_149 (fun q17 f H hq hAq off hf_q17 hP hS => ?_)
  have nL_q17 : q17 ∉ L := fun h => hq (hL0 _ h)
  have nq_q3_q17 : q3 ≠ q17 := fun e => hq (e ▸ hm_q3)
  have nq_q4_q17 : q4 ≠ q17 := fun e => hq (e ▸ hm_q4)
  have hN := pNd hN hq
  have hLA := pLA hLA hAq
  have hf_a0 := (off a0 (fun e => hq (e ▸ hm_a0))).trans hf_a0
  have hf_q0 := (off q0 (fun e => hq (e ▸ hm_q0))).trans hf_q0
  have hf_q1 := (off q1 (fun e => hq (e ▸ hm_q1))).trans hf_q1
  have hf_q2 := (off q2 (fun e => hq (e ▸ hm_q2))).trans hf_q2
  have hf_q3 := (off q3 (fun e => hq (e ▸ hm_q3))).trans hf_q3
  have hf_q4 := (off q4 (fun e => hq (e ▸ hm_q4))).trans hf_q4
  have hf_q5 := (off q5 (fun e => hq (e ▸ hm_q5))).trans hf_q5
  have hf_q6 := (off q6 (fun e => hq (e ▸ hm_q6))).trans hf_q6
  have hf_q7 := (off q7 (fun e => hq (e ▸ hm_q7))).trans hf_q7
  have hf_q8 := (off q8 (fun e => hq (e ▸ hm_q8))).trans hf_q8
  have hf_q9 := (off q9 (fun e => hq (e ▸ hm_q9))).trans hf_q9
  have hf_q10 := (off q10 (fun e => hq (e ▸ hm_q10))).trans hf_q10
  have hf_q11 := (off q11 (fun e => hq (e ▸ hm_q11))).trans hf_q11
  have hf_q12 := (off q12 (fun e => hq (e ▸ hm_q12))).trans hf_q12
  have hf_q13 := (off q13 (fun e => hq (e ▸ hm_q13))).trans hf_q13
  have hf_q14 := (off q14 (fun e => hq (e ▸ hm_q14))).trans hf_q14
  have hf_q15 := (off q15 (fun e => hq (e ▸ hm_q15))).trans hf_q15
  have hf_q16 := (off q16 (fun e => hq (e ▸ hm_q16))).trans hf_q16
  have hO := pOn hO hL0 hq off
  have hL0 := pL0 (q := q17) hL0
  have hne_q17 : q17 ≠ a0 := fun e => hq (e ▸ hm_a0)
  have hm_a0 := pIn (q := q17) hm_a0
  have hm_q0 := pIn (q := q17) hm_q0
  have hm_q1 := pIn (q := q17) hm_q1
  have hm_q2 := pIn (q := q17) hm_q2
  have hm_q3 := pIn (q := q17) hm_q3
  have hm_q4 := pIn (q := q17) hm_q4
  have hm_q5 := pIn (q := q17) hm_q5
  have hm_q6 := pIn (q := q17) hm_q6
  have hm_q7 := pIn (q := q17) hm_q7
  have hm_q8 := pIn (q := q17) hm_q8
  have hm_q9 := pIn (q := q17) hm_q9
  have hm_q10 := pIn (q := q17) hm_q10
  have hm_q11 := pIn (q := q17) hm_q11
  have hm_q12 := pIn (q := q17) hm_q12
  have hm_q13 := pIn (q := q17) hm_q13
  have hm_q14 := pIn (q := q17) hm_q14
  have hm_q15 := pIn (q := q17) hm_q15
  have hm_q16 := pIn (q := q17) hm_q16
  have hm_q17 := pIs (L ++ [q0] ++ [q1] ++ [q2] ++ [q3] ++ [q4] ++ [q5] ++ [q6] ++ [q7] ++ [q8] ++ [q9] ++ [q10] ++ [q11] ++ [q12] ++ [q13] ++ [q14] ++ [q15] ++ [q16]) q17
  refine pp_putF (ci := 5) (v := .ref q17) (ty := (.array .int)) (fs' := [.int 0, .int 0, .ref q0, .ref q1, .ref q2, .ref q3, .ref q4, .ref q5, .ref q6, .ref q7, .ref q8, .ref q9, .ref q10, .ref q11, .ref q12, .ref q13, .int 0, .ref q14, .ref q15, .ref q16, .ref q17, .null, .null]) (C := R_Model) (T := F_Model) (N := 23) hx hb hall i_Model t_Model t_Model_ok n_Model hown hN hLA hK hP hS hm_a0 hf_a0 rfl 20 (by decide) (hall _ m_445) (fun _ h9 => h9) rfl hin rfl (by decide +kernel) rfl rfl (Nat.le_of_ble_eq_true rfl) rfl d_Model_init_151 (fun f H locs off hf_a0 hP hS => ?_)
  have hf_q0 := (off q0 hne_q0).trans hf_q0
  have hf_q1 := (off q1 hne_q1).trans hf_q1
  have hf_q2 := (off q2 hne_q2).trans hf_q2
  have hf_q3 := (off q3 hne_q3).trans hf_q3
  have hf_q4 := (off q4 hne_q4).trans hf_q4
  have hf_q5 := (off q5 hne_q5).trans hf_q5
  have hf_q6 := (off q6 hne_q6).trans hf_q6
  have hf_q7 := (off q7 hne_q7).trans hf_q7
  have hf_q8 := (off q8 hne_q8).trans hf_q8
  have hf_q9 := (off q9 hne_q9).trans hf_q9
  have hf_q10 := (off q10 hne_q10).trans hf_q10
  have hf_q11 := (off q11 hne_q11).trans hf_q11
  have hf_q12 := (off q12 hne_q12).trans hf_q12
  have hf_q13 := (off q13 hne_q13).trans hf_q13
  have hf_q14 := (off q14 hne_q14).trans hf_q14
  have hf_q15 := (off q15 hne_q15).trans hf_q15
  have hf_q16 := (off q16 hne_q16).trans hf_q16
  have hf_q17 := (off q17 hne_q17).trans hf_q17
  have hO := pOp hO off
  refine lv_aload_n hx hb d_Model_init_154 rfl (lv_at hl 0 rfl) ?_
  refine lv_bipush (v := 32) hx hb d_Model_init_155 (by decide) ?_
  refine pp_newI (N' := 32) hx hb (hall _ m_670) hN hLA hK hP hS hA (by decide) (by decide) (by decide) (Nat.le_of_ble_eq_true rfl) (Nat.le_of_ble_eq_true rfl) d_Model_init_157 (fun q18 f H hq hAq off hf_q18 hP hS => ?_)
  have nL_q18 : q18 ∉ L := fun h => hq (hL0 _ h)
  have nq_q3_q18 : q3 ≠ q18 := fun e => hq (e ▸ hm_q3)
  have nq_q4_q18 : q4 ≠ q18 := fun e => hq (e ▸ hm_q4)
  have hN := pNd hN hq
  have hLA := pLA hLA hAq
  have hf_a0 := (off a0 (fun e => hq (e ▸ hm_a0))).trans hf_a0
  have hf_q0 := (off q0 (fun e => hq (e ▸ hm_q0))).trans hf_q0
  have hf_q1 := (off q1 (fun e => hq (e ▸ hm_q1))).trans hf_q1
  have hf_q2 := (off q2 (fun e => hq (e ▸ hm_q2))).trans hf_q2
  have hf_q3 := (off q3 (fun e => hq (e ▸ hm_q3))).trans hf_q3
  have hf_q4 := (off q4 (fun e => hq (e ▸ hm_q4))).trans hf_q4
  have hf_q5 := (off q5 (fun e => hq (e ▸ hm_q5))).trans hf_q5
  have hf_q6 := (off q6 (fun e => hq (e ▸ hm_q6))).trans hf_q6
  have hf_q7 := (off q7 (fun e => hq (e ▸ hm_q7))).trans hf_q7
  have hf_q8 := (off q8 (fun e => hq (e ▸ hm_q8))).trans hf_q8
  have hf_q9 := (off q9 (fun e => hq (e ▸ hm_q9))).trans hf_q9
  have hf_q10 := (off q10 (fun e => hq (e ▸ hm_q10))).trans hf_q10
  have hf_q11 := (off q11 (fun e => hq (e ▸ hm_q11))).trans hf_q11
  have hf_q12 := (off q12 (fun e => hq (e ▸ hm_q12))).trans hf_q12
  have hf_q13 := (off q13 (fun e => hq (e ▸ hm_q13))).trans hf_q13
  have hf_q14 := (off q14 (fun e => hq (e ▸ hm_q14))).trans hf_q14
  have hf_q15 := (off q15 (fun e => hq (e ▸ hm_q15))).trans hf_q15
  have hf_q16 := (off q16 (fun e => hq (e ▸ hm_q16))).trans hf_q16
  have hf_q17 := (off q17 (fun e => hq (e ▸ hm_q17))).trans hf_q17
  have hO := pOn hO hL0 hq off
  have hL0 := pL0 (q := q18) hL0
  have hne_q18 : q18 ≠ a0 := fun e => hq (e ▸ hm_a0)
  have hm_a0 := pIn (q := q18) hm_a0
  have hm_q0 := pIn (q := q18) hm_q0
  have hm_q1 := pIn (q := q18) hm_q1
  have hm_q2 := pIn (q := q18) hm_q2
  have hm_q3 := pIn (q := q18) hm_q3
  have hm_q4 := pIn (q := q18) hm_q4
  have hm_q5 := pIn (q := q18) hm_q5
  have hm_q6 := pIn (q := q18) hm_q6
  have hm_q7 := pIn (q := q18) hm_q7
  have hm_q8 := pIn (q := q18) hm_q8
  have hm_q9 := pIn (q := q18) hm_q9
  have hm_q10 := pIn (q := q18) hm_q10
  have hm_q11 := pIn (q := q18) hm_q11
  have hm_q12 := pIn (q := q18) hm_q12
  have hm_q13 := pIn (q := q18) hm_q13
  have hm_q14 := pIn (q := q18) hm_q14
  have hm_q15 := pIn (q := q18) hm_q15
  have hm_q16 := pIn (q := q18) hm_q16
  have hm_q17 := pIn (q := q18) hm_q17
  have hm_q18 := pIs (L ++ [q0] ++ [q1] ++ [q2] ++ [q3] ++ [q4] ++ [q5] ++ [q6] ++ [q7] ++ [q8] ++ [q9] ++ [q10] ++ [q11] ++ [q12] ++ [q13] ++ [q14] ++ [q15] ++ [q16] ++ [q17]) q18
  refine pp_putF (ci := 5) (v := .ref q18) (ty := (.array .int)) (fs' := [.int 0, .int 0, .ref q0, .ref q1, .ref q2, .ref q3, .ref q4, .ref q5, .ref q6, .ref q7, .ref q8, .ref q9, .ref q10, .ref q11, .ref q12, .ref q13, .int 0, .ref q14, .ref q15, .ref q16, .ref q17, .ref q18, .null]) (C := R_Model) (T := F_Model) (N := 23) hx hb hall i_Model t_Model t_Model_ok n_Model hown hN hLA hK hP hS hm_a0 hf_a0 rfl 21 (by decide) (hall _ m_427) (fun _ h9 => h9) rfl hin rfl (by decide +kernel) rfl rfl (Nat.le_of_ble_eq_true rfl) rfl d_Model_init_159 (fun f H locs off hf_a0 hP hS => ?_)
  have hf_q0 := (off q0 hne_q0).trans hf_q0
  have hf_q1 := (off q1 hne_q1).trans hf_q1
  have hf_q2 := (off q2 hne_q2).trans hf_q2
  have hf_q3 := (off q3 hne_q3).trans hf_q3
  have hf_q4 := (off q4 hne_q4).trans hf_q4
  have hf_q5 := (off q5 hne_q5).trans hf_q5
  have hf_q6 := (off q6 hne_q6).trans hf_q6
  have hf_q7 := (off q7 hne_q7).trans hf_q7
  have hf_q8 := (off q8 hne_q8).trans hf_q8
  have hf_q9 := (off q9 hne_q9).trans hf_q9
  have hf_q10 := (off q10 hne_q10).trans hf_q10
  have hf_q11 := (off q11 hne_q11).trans hf_q11
  have hf_q12 := (off q12 hne_q12).trans hf_q12
  have hf_q13 := (off q13 hne_q13).trans hf_q13
  have hf_q14 := (off q14 hne_q14).trans hf_q14
  have hf_q15 := (off q15 hne_q15).trans hf_q15
  have hf_q16 := (off q16 hne_q16).trans hf_q16
  have hf_q17 := (off q17 hne_q17).trans hf_q17
  have hf_q18 := (off q18 hne_q18).trans hf_q18
  have hO := pOp hO off
  refine lv_aload_n hx hb d_Model_init_162 rfl (lv_at hl 0 rfl) ?_
  refine lv_bipush (v := 16) hx hb d_Model_init_163 (by decide) ?_
  refine pp_newI (N' := 16) hx hb (hall _ m_670) hN hLA hK hP hS hA (by decide) (by decide) (by decide) (Nat.le_of_ble_eq_true rfl) (Nat.le_of_ble_eq_true rfl) d_Model_init_165 (fun q19 f H hq hAq off hf_q19 hP hS => ?_)
  have nL_q19 : q19 ∉ L := fun h => hq (hL0 _ h)
  have nq_q3_q19 : q3 ≠ q19 := fun e => hq (e ▸ hm_q3)
  have nq_q4_q19 : q4 ≠ q19 := fun e => hq (e ▸ hm_q4)
  have hN := pNd hN hq
  have hLA := pLA hLA hAq
  have hf_a0 := (off a0 (fun e => hq (e ▸ hm_a0))).trans hf_a0
  have hf_q0 := (off q0 (fun e => hq (e ▸ hm_q0))).trans hf_q0
  have hf_q1 := (off q1 (fun e => hq (e ▸ hm_q1))).trans hf_q1
  have hf_q2 := (off q2 (fun e => hq (e ▸ hm_q2))).trans hf_q2
  have hf_q3 := (off q3 (fun e => hq (e ▸ hm_q3))).trans hf_q3
  have hf_q4 := (off q4 (fun e => hq (e ▸ hm_q4))).trans hf_q4
  have hf_q5 := (off q5 (fun e => hq (e ▸ hm_q5))).trans hf_q5
  have hf_q6 := (off q6 (fun e => hq (e ▸ hm_q6))).trans hf_q6
  have hf_q7 := (off q7 (fun e => hq (e ▸ hm_q7))).trans hf_q7
  have hf_q8 := (off q8 (fun e => hq (e ▸ hm_q8))).trans hf_q8
  have hf_q9 := (off q9 (fun e => hq (e ▸ hm_q9))).trans hf_q9
  have hf_q10 := (off q10 (fun e => hq (e ▸ hm_q10))).trans hf_q10
  have hf_q11 := (off q11 (fun e => hq (e ▸ hm_q11))).trans hf_q11
  have hf_q12 := (off q12 (fun e => hq (e ▸ hm_q12))).trans hf_q12
  have hf_q13 := (off q13 (fun e => hq (e ▸ hm_q13))).trans hf_q13
  have hf_q14 := (off q14 (fun e => hq (e ▸ hm_q14))).trans hf_q14
  have hf_q15 := (off q15 (fun e => hq (e ▸ hm_q15))).trans hf_q15
  have hf_q16 := (off q16 (fun e => hq (e ▸ hm_q16))).trans hf_q16
  have hf_q17 := (off q17 (fun e => hq (e ▸ hm_q17))).trans hf_q17
  have hf_q18 := (off q18 (fun e => hq (e ▸ hm_q18))).trans hf_q18
  have hO := pOn hO hL0 hq off
  have hL0 := pL0 (q := q19) hL0
  have hne_q19 : q19 ≠ a0 := fun e => hq (e ▸ hm_a0)
  have hm_a0 := pIn (q := q19) hm_a0
  have hm_q0 := pIn (q := q19) hm_q0
  have hm_q1 := pIn (q := q19) hm_q1
  have hm_q2 := pIn (q := q19) hm_q2
  have hm_q3 := pIn (q := q19) hm_q3
  have hm_q4 := pIn (q := q19) hm_q4
  have hm_q5 := pIn (q := q19) hm_q5
  have hm_q6 := pIn (q := q19) hm_q6
  have hm_q7 := pIn (q := q19) hm_q7
  have hm_q8 := pIn (q := q19) hm_q8
  have hm_q9 := pIn (q := q19) hm_q9
  have hm_q10 := pIn (q := q19) hm_q10
  have hm_q11 := pIn (q := q19) hm_q11
  have hm_q12 := pIn (q := q19) hm_q12
  have hm_q13 := pIn (q := q19) hm_q13
  have hm_q14 := pIn (q := q19) hm_q14
  have hm_q15 := pIn (q := q19) hm_q15
  have hm_q16 := pIn (q := q19) hm_q16
  have hm_q17 := pIn (q := q19) hm_q17
  have hm_q18 := pIn (q := q19) hm_q18
  have hm_q19 := pIs (L ++ [q0] ++ [q1] ++ [q2] ++ [q3] ++ [q4] ++ [q5] ++ [q6] ++ [q7] ++ [q8] ++ [q9] ++ [q10] ++ [q11] ++ [q12] ++ [q13] ++ [q14] ++ [q15] ++ [q16] ++ [q17] ++ [q18]) q19
  refine pp_putF (ci := 5) (v := .ref q19) (ty := (.array .int)) (fs' := [.int 0, .int 0, .ref q0, .ref q1, .ref q2, .ref q3, .ref q4, .ref q5, .ref q6, .ref q7, .ref q8, .ref q9, .ref q10, .ref q11, .ref q12, .ref q13, .int 0, .ref q14, .ref q15, .ref q16, .ref q17, .ref q18, .ref q19]) (C := R_Model) (T := F_Model) (N := 23) hx hb hall i_Model t_Model t_Model_ok n_Model hown hN hLA hK hP hS hm_a0 hf_a0 rfl 22 (by decide) (hall _ m_473) (fun _ h9 => h9) rfl hin rfl (by decide +kernel) rfl rfl (Nat.le_of_ble_eq_true rfl) rfl d_Model_init_167 (fun f H locs off hf_a0 hP hS => ?_)
  have hf_q0 := (off q0 hne_q0).trans hf_q0
  have hf_q1 := (off q1 hne_q1).trans hf_q1
  have hf_q2 := (off q2 hne_q2).trans hf_q2
  have hf_q3 := (off q3 hne_q3).trans hf_q3
  have hf_q4 := (off q4 hne_q4).trans hf_q4
  have hf_q5 := (off q5 hne_q5).trans hf_q5
  have hf_q6 := (off q6 hne_q6).trans hf_q6
  have hf_q7 := (off q7 hne_q7).trans hf_q7
  have hf_q8 := (off q8 hne_q8).trans hf_q8
  have hf_q9 := (off q9 hne_q9).trans hf_q9
  have hf_q10 := (off q10 hne_q10).trans hf_q10
  have hf_q11 := (off q11 hne_q11).trans hf_q11
  have hf_q12 := (off q12 hne_q12).trans hf_q12
  have hf_q13 := (off q13 hne_q13).trans hf_q13
  have hf_q14 := (off q14 hne_q14).trans hf_q14
  have hf_q15 := (off q15 hne_q15).trans hf_q15
  have hf_q16 := (off q16 hne_q16).trans hf_q16
  have hf_q17 := (off q17 hne_q17).trans hf_q17
  have hf_q18 := (off q18 hne_q18).trans hf_q18
  have hf_q19 := (off q19 hne_q19).trans hf_q19
  have hO := pOp hO off
  refine lv_aload_n hx hb d_Model_init_170 rfl (lv_at hl 0 rfl) ?_
  refine lv_iload_n hx hb d_Model_init_171 rfl (lv_at hl 1 rfl) ?_
  refine lv_if_lt hx hb d_Model_init_172 rfl (fun hc => ?_) (fun hc => ?_)
  · refine lv_iconst (v := 5) hx hb d_Model_init_185 (by decide) ?_
    have hev : (5 : Int32) = epsOf x1 := by unfold epsOf; rw [if_pos hc]
    refine pp_putF (ci := 5) (v := .int (5 : Int32)) (ty := .int) (fs' := [.int (5 : Int32), .int 0, .ref q0, .ref q1, .ref q2, .ref q3, .ref q4, .ref q5, .ref q6, .ref q7, .ref q8, .ref q9, .ref q10, .ref q11, .ref q12, .ref q13, .int 0, .ref q14, .ref q15, .ref q16, .ref q17, .ref q18, .ref q19]) (C := R_Model) (T := F_Model) (N := 23) hx hb hall i_Model t_Model t_Model_ok n_Model hown hN hLA hK hP hS hm_a0 hf_a0 rfl 0 (by decide) (hall _ m_332) (fun _ h9 => h9) rfl hin rfl (by decide +kernel) rfl rfl (Nat.le_of_ble_eq_true rfl) rfl d_Model_init_186 (fun f H locs off hf_a0 hP hS => ?_)
    have hf_q0 := (off q0 hne_q0).trans hf_q0
    have hf_q1 := (off q1 hne_q1).trans hf_q1
    have hf_q2 := (off q2 hne_q2).trans hf_q2
    have hf_q3 := (off q3 hne_q3).trans hf_q3
    have hf_q4 := (off q4 hne_q4).trans hf_q4
    have hf_q5 := (off q5 hne_q5).trans hf_q5
    have hf_q6 := (off q6 hne_q6).trans hf_q6
    have hf_q7 := (off q7 hne_q7).trans hf_q7
    have hf_q8 := (off q8 hne_q8).trans hf_q8
    have hf_q9 := (off q9 hne_q9).trans hf_q9
    have hf_q10 := (off q10 hne_q10).trans hf_q10
    have hf_q11 := (off q11 hne_q11).trans hf_q11
    have hf_q12 := (off q12 hne_q12).trans hf_q12
    have hf_q13 := (off q13 hne_q13).trans hf_q13
    have hf_q14 := (off q14 hne_q14).trans hf_q14
    have hf_q15 := (off q15 hne_q15).trans hf_q15
    have hf_q16 := (off q16 hne_q16).trans hf_q16
    have hf_q17 := (off q17 hne_q17).trans hf_q17
    have hf_q18 := (off q18 hne_q18).trans hf_q18
    have hf_q19 := (off q19 hne_q19).trans hf_q19
    have hO := pOp hO off
    refine lv_iconst (v := 0) hx hb d_Model_init_189 (by decide) ?_
    refine lv_istore_n (lv' := [(2, .int (nI 0)), (0, .ref a0), (1, .int x1)]) hx hb d_Model_init_190 rfl hl (Nat.le_of_ble_eq_true rfl) rfl (fun ls hl => ?_)
    refine model_loop (f1 := f) hx hb hr hlk hown hall hK hN hLA hm_a0 hm_q3 hm_q4 hne_q3 hne_q4 nq_q3_q4 rfl rfl (fun f9 hO9 h3 h4 => ?_) 6 0 f H locs ls rfl hP hS (fun b _ _ => rfl) hf_a0 (hf_q3.trans (by congr 4)) (hf_q4.trans (by congr 4)) (lv_sub hl [1, 0] rfl)
    refine ⟨q0, q1, q2, q3, q4, q5, q6, q7, q8, q9, q10, q11, q12, q13, q14, q15, q16, q17, q18, q19, by simp, hN, fun b hb hn => (hO9 b (fun e => nL_q3 (e ▸ hb)) (fun e => nL_q4 (e ▸ hb))).trans (hO b hb hn), ((hO9 a0 hne_q3.symm hne_q4.symm).trans hf_a0).trans (by rw [hev]), (hO9 q0 (nq_q0_q3) (nq_q0_q4)).trans hf_q0, (hO9 q1 (nq_q1_q3) (nq_q1_q4)).trans hf_q1, (hO9 q2 (nq_q2_q3) (nq_q2_q4)).trans hf_q2, h3, h4, (hO9 q5 (nq_q3_q5.symm) (nq_q4_q5.symm)).trans hf_q5, (hO9 q6 (nq_q3_q6.symm) (nq_q4_q6.symm)).trans hf_q6, (hO9 q7 (nq_q3_q7.symm) (nq_q4_q7.symm)).trans hf_q7, (hO9 q8 (nq_q3_q8.symm) (nq_q4_q8.symm)).trans hf_q8, (hO9 q9 (nq_q3_q9.symm) (nq_q4_q9.symm)).trans hf_q9, (hO9 q10 (nq_q3_q10.symm) (nq_q4_q10.symm)).trans hf_q10, (hO9 q11 (nq_q3_q11.symm) (nq_q4_q11.symm)).trans hf_q11, (hO9 q12 (nq_q3_q12.symm) (nq_q4_q12.symm)).trans hf_q12, (hO9 q13 (nq_q3_q13.symm) (nq_q4_q13.symm)).trans hf_q13, (hO9 q14 (nq_q3_q14.symm) (nq_q4_q14.symm)).trans hf_q14, (hO9 q15 (nq_q3_q15.symm) (nq_q4_q15.symm)).trans hf_q15, (hO9 q16 (nq_q3_q16.symm) (nq_q4_q16.symm)).trans hf_q16, (hO9 q17 (nq_q3_q17.symm) (nq_q4_q17.symm)).trans hf_q17, (hO9 q18 (nq_q3_q18.symm) (nq_q4_q18.symm)).trans hf_q18, (hO9 q19 (nq_q3_q19.symm) (nq_q4_q19.symm)).trans hf_q19⟩
  · refine lv_iload_n hx hb d_Model_init_175 rfl (lv_at hl 1 rfl) ?_
    refine lv_bipush (v := 10) hx hb d_Model_init_176 (by decide) ?_
    refine lv_icmp_gt hx hb d_Model_init_178 rfl (fun hc2 => ?_) (fun hc2 => ?_)
    · refine lv_iconst (v := 5) hx hb d_Model_init_185 (by decide) ?_
      have hev : (5 : Int32) = epsOf x1 := by unfold epsOf; rw [if_neg hc, if_pos hc2]
      refine pp_putF (ci := 5) (v := .int (5 : Int32)) (ty := .int) (fs' := [.int (5 : Int32), .int 0, .ref q0, .ref q1, .ref q2, .ref q3, .ref q4, .ref q5, .ref q6, .ref q7, .ref q8, .ref q9, .ref q10, .ref q11, .ref q12, .ref q13, .int 0, .ref q14, .ref q15, .ref q16, .ref q17, .ref q18, .ref q19]) (C := R_Model) (T := F_Model) (N := 23) hx hb hall i_Model t_Model t_Model_ok n_Model hown hN hLA hK hP hS hm_a0 hf_a0 rfl 0 (by decide) (hall _ m_332) (fun _ h9 => h9) rfl hin rfl (by decide +kernel) rfl rfl (Nat.le_of_ble_eq_true rfl) rfl d_Model_init_186 (fun f H locs off hf_a0 hP hS => ?_)
      have hf_q0 := (off q0 hne_q0).trans hf_q0
      have hf_q1 := (off q1 hne_q1).trans hf_q1
      have hf_q2 := (off q2 hne_q2).trans hf_q2
      have hf_q3 := (off q3 hne_q3).trans hf_q3
      have hf_q4 := (off q4 hne_q4).trans hf_q4
      have hf_q5 := (off q5 hne_q5).trans hf_q5
      have hf_q6 := (off q6 hne_q6).trans hf_q6
      have hf_q7 := (off q7 hne_q7).trans hf_q7
      have hf_q8 := (off q8 hne_q8).trans hf_q8
      have hf_q9 := (off q9 hne_q9).trans hf_q9
      have hf_q10 := (off q10 hne_q10).trans hf_q10
      have hf_q11 := (off q11 hne_q11).trans hf_q11
      have hf_q12 := (off q12 hne_q12).trans hf_q12
      have hf_q13 := (off q13 hne_q13).trans hf_q13
      have hf_q14 := (off q14 hne_q14).trans hf_q14
      have hf_q15 := (off q15 hne_q15).trans hf_q15
      have hf_q16 := (off q16 hne_q16).trans hf_q16
      have hf_q17 := (off q17 hne_q17).trans hf_q17
      have hf_q18 := (off q18 hne_q18).trans hf_q18
      have hf_q19 := (off q19 hne_q19).trans hf_q19
      have hO := pOp hO off
      refine lv_iconst (v := 0) hx hb d_Model_init_189 (by decide) ?_
      refine lv_istore_n (lv' := [(2, .int (nI 0)), (0, .ref a0), (1, .int x1)]) hx hb d_Model_init_190 rfl hl (Nat.le_of_ble_eq_true rfl) rfl (fun ls hl => ?_)
      refine model_loop (f1 := f) hx hb hr hlk hown hall hK hN hLA hm_a0 hm_q3 hm_q4 hne_q3 hne_q4 nq_q3_q4 rfl rfl (fun f9 hO9 h3 h4 => ?_) 6 0 f H locs ls rfl hP hS (fun b _ _ => rfl) hf_a0 (hf_q3.trans (by congr 4)) (hf_q4.trans (by congr 4)) (lv_sub hl [1, 0] rfl)
      refine ⟨q0, q1, q2, q3, q4, q5, q6, q7, q8, q9, q10, q11, q12, q13, q14, q15, q16, q17, q18, q19, by simp, hN, fun b hb hn => (hO9 b (fun e => nL_q3 (e ▸ hb)) (fun e => nL_q4 (e ▸ hb))).trans (hO b hb hn), ((hO9 a0 hne_q3.symm hne_q4.symm).trans hf_a0).trans (by rw [hev]), (hO9 q0 (nq_q0_q3) (nq_q0_q4)).trans hf_q0, (hO9 q1 (nq_q1_q3) (nq_q1_q4)).trans hf_q1, (hO9 q2 (nq_q2_q3) (nq_q2_q4)).trans hf_q2, h3, h4, (hO9 q5 (nq_q3_q5.symm) (nq_q4_q5.symm)).trans hf_q5, (hO9 q6 (nq_q3_q6.symm) (nq_q4_q6.symm)).trans hf_q6, (hO9 q7 (nq_q3_q7.symm) (nq_q4_q7.symm)).trans hf_q7, (hO9 q8 (nq_q3_q8.symm) (nq_q4_q8.symm)).trans hf_q8, (hO9 q9 (nq_q3_q9.symm) (nq_q4_q9.symm)).trans hf_q9, (hO9 q10 (nq_q3_q10.symm) (nq_q4_q10.symm)).trans hf_q10, (hO9 q11 (nq_q3_q11.symm) (nq_q4_q11.symm)).trans hf_q11, (hO9 q12 (nq_q3_q12.symm) (nq_q4_q12.symm)).trans hf_q12, (hO9 q13 (nq_q3_q13.symm) (nq_q4_q13.symm)).trans hf_q13, (hO9 q14 (nq_q3_q14.symm) (nq_q4_q14.symm)).trans hf_q14, (hO9 q15 (nq_q3_q15.symm) (nq_q4_q15.symm)).trans hf_q15, (hO9 q16 (nq_q3_q16.symm) (nq_q4_q16.symm)).trans hf_q16, (hO9 q17 (nq_q3_q17.symm) (nq_q4_q17.symm)).trans hf_q17, (hO9 q18 (nq_q3_q18.symm) (nq_q4_q18.symm)).trans hf_q18, (hO9 q19 (nq_q3_q19.symm) (nq_q4_q19.symm)).trans hf_q19⟩
    · refine lv_iload_n hx hb d_Model_init_181 rfl (lv_at hl 1 rfl) ?_
      refine lv_goto hx hb d_Model_init_182 rfl ?_
      have hev : x1 = epsOf x1 := by unfold epsOf; rw [if_neg hc, if_neg hc2]
      refine pp_putF (ci := 5) (v := .int x1) (ty := .int) (fs' := [.int x1, .int 0, .ref q0, .ref q1, .ref q2, .ref q3, .ref q4, .ref q5, .ref q6, .ref q7, .ref q8, .ref q9, .ref q10, .ref q11, .ref q12, .ref q13, .int 0, .ref q14, .ref q15, .ref q16, .ref q17, .ref q18, .ref q19]) (C := R_Model) (T := F_Model) (N := 23) hx hb hall i_Model t_Model t_Model_ok n_Model hown hN hLA hK hP hS hm_a0 hf_a0 rfl 0 (by decide) (hall _ m_332) (fun _ h9 => h9) rfl hin rfl (by decide +kernel) rfl rfl (Nat.le_of_ble_eq_true rfl) rfl d_Model_init_186 (fun f H locs off hf_a0 hP hS => ?_)
      have hf_q0 := (off q0 hne_q0).trans hf_q0
      have hf_q1 := (off q1 hne_q1).trans hf_q1
      have hf_q2 := (off q2 hne_q2).trans hf_q2
      have hf_q3 := (off q3 hne_q3).trans hf_q3
      have hf_q4 := (off q4 hne_q4).trans hf_q4
      have hf_q5 := (off q5 hne_q5).trans hf_q5
      have hf_q6 := (off q6 hne_q6).trans hf_q6
      have hf_q7 := (off q7 hne_q7).trans hf_q7
      have hf_q8 := (off q8 hne_q8).trans hf_q8
      have hf_q9 := (off q9 hne_q9).trans hf_q9
      have hf_q10 := (off q10 hne_q10).trans hf_q10
      have hf_q11 := (off q11 hne_q11).trans hf_q11
      have hf_q12 := (off q12 hne_q12).trans hf_q12
      have hf_q13 := (off q13 hne_q13).trans hf_q13
      have hf_q14 := (off q14 hne_q14).trans hf_q14
      have hf_q15 := (off q15 hne_q15).trans hf_q15
      have hf_q16 := (off q16 hne_q16).trans hf_q16
      have hf_q17 := (off q17 hne_q17).trans hf_q17
      have hf_q18 := (off q18 hne_q18).trans hf_q18
      have hf_q19 := (off q19 hne_q19).trans hf_q19
      have hO := pOp hO off
      refine lv_iconst (v := 0) hx hb d_Model_init_189 (by decide) ?_
      refine lv_istore_n (lv' := [(2, .int (nI 0)), (0, .ref a0), (1, .int x1)]) hx hb d_Model_init_190 rfl hl (Nat.le_of_ble_eq_true rfl) rfl (fun ls hl => ?_)
      refine model_loop (f1 := f) hx hb hr hlk hown hall hK hN hLA hm_a0 hm_q3 hm_q4 hne_q3 hne_q4 nq_q3_q4 rfl rfl (fun f9 hO9 h3 h4 => ?_) 6 0 f H locs ls rfl hP hS (fun b _ _ => rfl) hf_a0 (hf_q3.trans (by congr 4)) (hf_q4.trans (by congr 4)) (lv_sub hl [1, 0] rfl)
      refine ⟨q0, q1, q2, q3, q4, q5, q6, q7, q8, q9, q10, q11, q12, q13, q14, q15, q16, q17, q18, q19, by simp, hN, fun b hb hn => (hO9 b (fun e => nL_q3 (e ▸ hb)) (fun e => nL_q4 (e ▸ hb))).trans (hO b hb hn), ((hO9 a0 hne_q3.symm hne_q4.symm).trans hf_a0).trans (by rw [← hev]), (hO9 q0 (nq_q0_q3) (nq_q0_q4)).trans hf_q0, (hO9 q1 (nq_q1_q3) (nq_q1_q4)).trans hf_q1, (hO9 q2 (nq_q2_q3) (nq_q2_q4)).trans hf_q2, h3, h4, (hO9 q5 (nq_q3_q5.symm) (nq_q4_q5.symm)).trans hf_q5, (hO9 q6 (nq_q3_q6.symm) (nq_q4_q6.symm)).trans hf_q6, (hO9 q7 (nq_q3_q7.symm) (nq_q4_q7.symm)).trans hf_q7, (hO9 q8 (nq_q3_q8.symm) (nq_q4_q8.symm)).trans hf_q8, (hO9 q9 (nq_q3_q9.symm) (nq_q4_q9.symm)).trans hf_q9, (hO9 q10 (nq_q3_q10.symm) (nq_q4_q10.symm)).trans hf_q10, (hO9 q11 (nq_q3_q11.symm) (nq_q4_q11.symm)).trans hf_q11, (hO9 q12 (nq_q3_q12.symm) (nq_q4_q12.symm)).trans hf_q12, (hO9 q13 (nq_q3_q13.symm) (nq_q4_q13.symm)).trans hf_q13, (hO9 q14 (nq_q3_q14.symm) (nq_q4_q14.symm)).trans hf_q14, (hO9 q15 (nq_q3_q15.symm) (nq_q4_q15.symm)).trans hf_q15, (hO9 q16 (nq_q3_q16.symm) (nq_q4_q16.symm)).trans hf_q16, (hO9 q17 (nq_q3_q17.symm) (nq_q4_q17.symm)).trans hf_q17, (hO9 q18 (nq_q3_q18.symm) (nq_q4_q18.symm)).trans hf_q18, (hO9 q19 (nq_q3_q19.symm) (nq_q4_q19.symm)).trans hf_q19⟩
