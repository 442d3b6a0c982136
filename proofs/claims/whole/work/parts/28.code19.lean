section
abbrev b_Model_versionStamp : ByteArray := prog_7_method_35_code
def y_Model_versionStamp : MethodName := ⟨"StampedStoreModel", "versionStamp", "(I)I"⟩
def w_Model_versionStamp : List Cond := .code y_Model_versionStamp b_Model_versionStamp 2 (some .int) :: w_all
theorem d_Model_versionStamp_0 : decode b_Model_versionStamp 0 = .ok (.aload_n 0, 1) := by decide +kernel
theorem d_Model_versionStamp_1 : decode b_Model_versionStamp 1 = .ok (.getfield 44, 3) := by decide +kernel
theorem d_Model_versionStamp_4 : decode b_Model_versionStamp 4 = .ok (.iload_n 1, 1) := by decide +kernel
theorem d_Model_versionStamp_5 : decode b_Model_versionStamp 5 = .ok (.iaload, 1) := by decide +kernel
theorem d_Model_versionStamp_6 : decode b_Model_versionStamp 6 = .ok (.iconst 2, 1) := by decide +kernel
theorem d_Model_versionStamp_7 : decode b_Model_versionStamp 7 = .ok (.if_icmp .ne 12, 3) := by decide +kernel
theorem d_Model_versionStamp_10 : decode b_Model_versionStamp 10 = .ok (.aload_n 0, 1) := by decide +kernel
theorem d_Model_versionStamp_11 : decode b_Model_versionStamp 11 = .ok (.getfield 41, 3) := by decide +kernel
theorem d_Model_versionStamp_14 : decode b_Model_versionStamp 14 = .ok (.iload_n 1, 1) := by decide +kernel
theorem d_Model_versionStamp_15 : decode b_Model_versionStamp 15 = .ok (.iaload, 1) := by decide +kernel
theorem d_Model_versionStamp_16 : decode b_Model_versionStamp 16 = .ok (.goto 9, 3) := by decide +kernel
theorem d_Model_versionStamp_19 : decode b_Model_versionStamp 19 = .ok (.aload_n 0, 1) := by decide +kernel
theorem d_Model_versionStamp_20 : decode b_Model_versionStamp 20 = .ok (.getfield 50, 3) := by decide +kernel
theorem d_Model_versionStamp_23 : decode b_Model_versionStamp 23 = .ok (.iload_n 1, 1) := by decide +kernel
theorem d_Model_versionStamp_24 : decode b_Model_versionStamp 24 = .ok (.iaload, 1) := by decide +kernel
theorem d_Model_versionStamp_25 : decode b_Model_versionStamp 25 = .ok (.ireturn, 1) := by decide +kernel
def F_Model_versionStamp (R : Nat → Nat → Nat) (a0 : Nat) (x1 : Int32) (I : St) : Option Int32 := (chk x1 360 ((if (I (R a0 13) x1.toNatClampNeg) = (2 : Int32) then (chk x1 360 (some (I (R a0 12) x1.toNatClampNeg))) else (chk x1 360 (some (I (R a0 15) x1.toNatClampNeg))))))
set_option maxHeartbeats 4000000 in
set_option maxRecDepth 100000 in
theorem c_Model_versionStamp (l : Launch) {g : Sg} {R : Nat → Nat → Nat} (hT : Ty g R) {a0 : Nat} (o0 : okA g 5 0 a0) {x1 : Int32} {I : St} {v : Int32} (h : F_Model_versionStamp R a0 x1 I = some v) : Cti l g R y_Model_versionStamp w_Model_versionStamp 0 0 [.ref a0, .int x1] I v I := by
  unfold Cti
  refine Met.ofW (cc := b_Model_versionStamp) (maxL := 2) (ret := (some .int)) (by decide) rfl ?_
  intro p e s m args below meth c s₁ B hml hv
  obtain ⟨rfl, hP, hK⟩ := hv
  have hts := atoms_spec (ws := w_Model_versionStamp) B.pre
  have hall : ∀ w ∈ w_all, w.before _ s = true := fun w hw => hts w (List.mem_cons_of_mem _ hw)
  have hown : s.vm.findClass R_Model = some m.cls := findClass_of_methodNamed B.named
  have hx := B.exec
  have hb := B.bytes
  have hr := B.returns
  have hlk := B.notSynchronized
  have cx : Cx p s m _ meth c g R R_Model b_Model_versionStamp 2 (some .int) := ⟨hx, hb, hml, hr, hlk, hown, hall, hT, hK⟩
  have hl := lv_entry ([.ref a0, .int x1]) (n := 2) (Nat.le_of_ble_eq_true rfl)
  rw [lg_entry_eq]
  generalize (lg_sl ([.ref a0, .int x1]) ++ List.replicate (2 - (lg_sl ([.ref a0, .int x1])).length) Slot.unset).toArray = ls at hl ⊢
  have hl : lv_has ls 2 [(0, .ref a0), (1, .int x1)] := hl
  have hS : va_S (· ∈ g.L) s.heap s.heap [] := va_S.rf
  unfold F_Model_versionStamp at h
  refine lv_aload_n hx hb d_Model_versionStamp_0 rfl (lv_at hl 0 rfl) ?_
  refine gg_get (C := R_Model) (T := F_Model) (N := 23) (ci := 5) hx hb hall i_Model hown hK hP o0.1 (wE_5 o0.2) rfl 13 (by decide) (hall _ m_364) (fun _ h9 => h9) rfl d_Model_versionStamp_1 ?_
  have o_1 : okA g 6 360 (R a0 13) := ty_Model_13 hT o0
  refine lv_iload_n hx hb d_Model_versionStamp_4 rfl (lv_at hl 1 rfl) ?_
  obtain ⟨hi5, h⟩ := chk_el h
  refine gg_iald hx hb hK hP o_1 hi5 d_Model_versionStamp_5 ?_
  refine lv_iconst (v := 2) hx hb d_Model_versionStamp_6 (by decide) ?_
  refine lv_icmp_ne hx hb d_Model_versionStamp_7 rfl (fun hc => ?_) (fun hc => ?_)
  · replace h := i_neg hc h
    refine lv_aload_n hx hb d_Model_versionStamp_19 rfl (lv_at hl 0 rfl) ?_
    refine gg_get (C := R_Model) (T := F_Model) (N := 23) (ci := 5) hx hb hall i_Model hown hK hP o0.1 (wE_5 o0.2) rfl 15 (by decide) (hall _ m_365) (fun _ h9 => h9) rfl d_Model_versionStamp_20 ?_
    have o_20 : okA g 6 360 (R a0 15) := ty_Model_15 hT o0
    refine lv_iload_n hx hb d_Model_versionStamp_23 rfl (lv_at hl 1 rfl) ?_
    obtain ⟨hi24, h⟩ := chk_el h
    refine gg_iald hx hb hK hP o_20 hi24 d_Model_versionStamp_24 ?_
    obtain rfl := Option.some.inj h
    exact gg_iret hx hb hr hlk hK hP hS d_Model_versionStamp_25
  · replace h := i_pos hc h
    refine lv_aload_n hx hb d_Model_versionStamp_10 rfl (lv_at hl 0 rfl) ?_
    refine gg_get (C := R_Model) (T := F_Model) (N := 23) (ci := 5) hx hb hall i_Model hown hK hP o0.1 (wE_5 o0.2) rfl 12 (by decide) (hall _ m_367) (fun _ h9 => h9) rfl d_Model_versionStamp_11 ?_
    have o_11 : okA g 6 360 (R a0 12) := ty_Model_12 hT o0
    refine lv_iload_n hx hb d_Model_versionStamp_14 rfl (lv_at hl 1 rfl) ?_
    obtain ⟨hi15, h⟩ := chk_el h
    refine gg_iald hx hb hK hP o_11 hi15 d_Model_versionStamp_15 ?_
    refine lv_goto hx hb d_Model_versionStamp_16 rfl ?_
    obtain rfl := Option.some.inj h
    exact gg_iret hx hb hr hlk hK hP hS d_Model_versionStamp_25
abbrev b_Model_read : ByteArray := prog_7_method_36_code
def y_Model_read : MethodName := ⟨"StampedStoreModel", "read", "(II)I"⟩
def w_Model_read : List Cond := .code y_Model_read b_Model_read 7 (some .int) :: w_all
theorem d_Model_read_0 : decode b_Model_read 0 = .ok (.iload_n 1, 1) := by decide +kernel
theorem d_Model_read_1 : decode b_Model_read 1 = .ok (.aload_n 0, 1) := by decide +kernel
theorem d_Model_read_2 : decode b_Model_read 2 = .ok (.getfield 135, 3) := by decide +kernel
theorem d_Model_read_5 : decode b_Model_read 5 = .ok (.invokestatic 78, 3) := by decide +kernel
theorem d_Model_read_8 : decode b_Model_read 8 = .ok (.ifCond .eq 12, 3) := by decide +kernel
theorem d_Model_read_11 : decode b_Model_read 11 = .ok (.iload_n 2, 1) := by decide +kernel
theorem d_Model_read_12 : decode b_Model_read 12 = .ok (.bipush 8, 2) := by decide +kernel
theorem d_Model_read_14 : decode b_Model_read 14 = .ok (.invokestatic 78, 3) := by decide +kernel
theorem d_Model_read_17 : decode b_Model_read 17 = .ok (.ifCond .ne 5, 3) := by decide +kernel
theorem d_Model_read_20 : decode b_Model_read 20 = .ok (.iconst (-1), 1) := by decide +kernel
theorem d_Model_read_21 : decode b_Model_read 21 = .ok (.ireturn, 1) := by decide +kernel
theorem d_Model_read_22 : decode b_Model_read 22 = .ok (.aload_n 0, 1) := by decide +kernel
theorem d_Model_read_23 : decode b_Model_read 23 = .ok (.getfield 53, 3) := by decide +kernel
theorem d_Model_read_26 : decode b_Model_read 26 = .ok (.iload_n 1, 1) := by decide +kernel
theorem d_Model_read_27 : decode b_Model_read 27 = .ok (.iaload, 1) := by decide +kernel
theorem d_Model_read_28 : decode b_Model_read 28 = .ok (.ifCond .eq 6, 3) := by decide +kernel
theorem d_Model_read_31 : decode b_Model_read 31 = .ok (.bipush (-2), 2) := by decide +kernel
theorem d_Model_read_33 : decode b_Model_read 33 = .ok (.ireturn, 1) := by decide +kernel
theorem d_Model_read_34 : decode b_Model_read 34 = .ok (.aload_n 0, 1) := by decide +kernel
theorem d_Model_read_35 : decode b_Model_read 35 = .ok (.getfield 59, 3) := by decide +kernel
theorem d_Model_read_38 : decode b_Model_read 38 = .ok (.iload_n 1, 1) := by decide +kernel
theorem d_Model_read_39 : decode b_Model_read 39 = .ok (.iaload, 1) := by decide +kernel
theorem d_Model_read_40 : decode b_Model_read 40 = .ok (.iload_n 2, 1) := by decide +kernel
theorem d_Model_read_41 : decode b_Model_read 41 = .ok (.ishr, 1) := by decide +kernel
theorem d_Model_read_42 : decode b_Model_read 42 = .ok (.iconst 1, 1) := by decide +kernel
theorem d_Model_read_43 : decode b_Model_read 43 = .ok (.iand, 1) := by decide +kernel
theorem d_Model_read_44 : decode b_Model_read 44 = .ok (.iconst 1, 1) := by decide +kernel
theorem d_Model_read_45 : decode b_Model_read 45 = .ok (.if_icmp .ne 15, 3) := by decide +kernel
theorem d_Model_read_48 : decode b_Model_read 48 = .ok (.aload_n 0, 1) := by decide +kernel
theorem d_Model_read_49 : decode b_Model_read 49 = .ok (.getfield 62, 3) := by decide +kernel
theorem d_Model_read_52 : decode b_Model_read 52 = .ok (.bipush 8, 2) := by decide +kernel
theorem d_Model_read_54 : decode b_Model_read 54 = .ok (.iload_n 1, 1) := by decide +kernel
theorem d_Model_read_55 : decode b_Model_read 55 = .ok (.imul, 1) := by decide +kernel
theorem d_Model_read_56 : decode b_Model_read 56 = .ok (.iload_n 2, 1) := by decide +kernel
theorem d_Model_read_57 : decode b_Model_read 57 = .ok (.iadd, 1) := by decide +kernel
theorem d_Model_read_58 : decode b_Model_read 58 = .ok (.iaload, 1) := by decide +kernel
theorem d_Model_read_59 : decode b_Model_read 59 = .ok (.ireturn, 1) := by decide +kernel
theorem d_Model_read_60 : decode b_Model_read 60 = .ok (.iload_n 2, 1) := by decide +kernel
theorem d_Model_read_61 : decode b_Model_read 61 = .ok (.iconst 4, 1) := by decide +kernel
theorem d_Model_read_62 : decode b_Model_read 62 = .ok (.idiv, 1) := by decide +kernel
theorem d_Model_read_63 : decode b_Model_read 63 = .ok (.istore_n 3, 1) := by decide +kernel
theorem d_Model_read_64 : decode b_Model_read 64 = .ok (.aload_n 0, 1) := by decide +kernel
theorem d_Model_read_65 : decode b_Model_read 65 = .ok (.iload_n 3, 1) := by decide +kernel
theorem d_Model_read_66 : decode b_Model_read 66 = .ok (.invokevirtual 93, 3) := by decide +kernel
theorem d_Model_read_69 : decode b_Model_read 69 = .ok (.istore 4, 2) := by decide +kernel
theorem d_Model_read_71 : decode b_Model_read 71 = .ok (.iload 4, 2) := by decide +kernel
theorem d_Model_read_73 : decode b_Model_read 73 = .ok (.ifCond .ge 6, 3) := by decide +kernel
theorem d_Model_read_76 : decode b_Model_read 76 = .ok (.bipush (-3), 2) := by decide +kernel
theorem d_Model_read_78 : decode b_Model_read 78 = .ok (.ireturn, 1) := by decide +kernel
theorem d_Model_read_79 : decode b_Model_read 79 = .ok (.aload_n 0, 1) := by decide +kernel
theorem d_Model_read_80 : decode b_Model_read 80 = .ok (.iload_n 1, 1) := by decide +kernel
theorem d_Model_read_81 : decode b_Model_read 81 = .ok (.iload_n 3, 1) := by decide +kernel
theorem d_Model_read_82 : decode b_Model_read 82 = .ok (.invokevirtual 150, 3) := by decide +kernel
theorem d_Model_read_85 : decode b_Model_read 85 = .ok (.ifCond .eq 13, 3) := by decide +kernel
theorem d_Model_read_88 : decode b_Model_read 88 = .ok (.aload_n 0, 1) := by decide +kernel
theorem d_Model_read_89 : decode b_Model_read 89 = .ok (.getfield 53, 3) := by decide +kernel
theorem d_Model_read_92 : decode b_Model_read 92 = .ok (.iload_n 1, 1) := by decide +kernel
theorem d_Model_read_93 : decode b_Model_read 93 = .ok (.iconst 4, 1) := by decide +kernel
theorem d_Model_read_94 : decode b_Model_read 94 = .ok (.iastore, 1) := by decide +kernel
theorem d_Model_read_95 : decode b_Model_read 95 = .ok (.bipush (-2), 2) := by decide +kernel
theorem d_Model_read_97 : decode b_Model_read 97 = .ok (.ireturn, 1) := by decide +kernel
theorem d_Model_read_98 : decode b_Model_read 98 = .ok (.iconst 0, 1) := by decide +kernel
theorem d_Model_read_99 : decode b_Model_read 99 = .ok (.istore 5, 2) := by decide +kernel
theorem d_Model_read_101 : decode b_Model_read 101 = .ok (.iload 5, 2) := by decide +kernel
theorem d_Model_read_103 : decode b_Model_read 103 = .ok (.aload_n 0, 1) := by decide +kernel
theorem d_Model_read_104 : decode b_Model_read 104 = .ok (.getfield 135, 3) := by decide +kernel
theorem d_Model_read_107 : decode b_Model_read 107 = .ok (.if_icmp .ge 45, 3) := by decide +kernel
theorem d_Model_read_110 : decode b_Model_read 110 = .ok (.iload 5, 2) := by decide +kernel
theorem d_Model_read_112 : decode b_Model_read 112 = .ok (.iload_n 1, 1) := by decide +kernel
theorem d_Model_read_113 : decode b_Model_read 113 = .ok (.if_icmp .eq 33, 3) := by decide +kernel
theorem d_Model_read_116 : decode b_Model_read 116 = .ok (.aload_n 0, 1) := by decide +kernel
theorem d_Model_read_117 : decode b_Model_read 117 = .ok (.getfield 59, 3) := by decide +kernel
theorem d_Model_read_120 : decode b_Model_read 120 = .ok (.iload 5, 2) := by decide +kernel
theorem d_Model_read_122 : decode b_Model_read 122 = .ok (.iaload, 1) := by decide +kernel
theorem d_Model_read_123 : decode b_Model_read 123 = .ok (.iload_n 2, 1) := by decide +kernel
theorem d_Model_read_124 : decode b_Model_read 124 = .ok (.ishr, 1) := by decide +kernel
theorem d_Model_read_125 : decode b_Model_read 125 = .ok (.iconst 1, 1) := by decide +kernel
theorem d_Model_read_126 : decode b_Model_read 126 = .ok (.iand, 1) := by decide +kernel
theorem d_Model_read_127 : decode b_Model_read 127 = .ok (.iconst 1, 1) := by decide +kernel
theorem d_Model_read_128 : decode b_Model_read 128 = .ok (.if_icmp .ne 18, 3) := by decide +kernel
theorem d_Model_read_131 : decode b_Model_read 131 = .ok (.aload_n 0, 1) := by decide +kernel
theorem d_Model_read_132 : decode b_Model_read 132 = .ok (.iload 4, 2) := by decide +kernel
theorem d_Model_read_134 : decode b_Model_read 134 = .ok (.iload 5, 2) := by decide +kernel
theorem d_Model_read_136 : decode b_Model_read 136 = .ok (.iload_n 2, 1) := by decide +kernel
theorem d_Model_read_137 : decode b_Model_read 137 = .ok (.invokevirtual 153, 3) := by decide +kernel
theorem d_Model_read_140 : decode b_Model_read 140 = .ok (.ifCond .eq 6, 3) := by decide +kernel
theorem d_Model_read_143 : decode b_Model_read 143 = .ok (.bipush (-4), 2) := by decide +kernel
theorem d_Model_read_145 : decode b_Model_read 145 = .ok (.ireturn, 1) := by decide +kernel
theorem d_Model_read_146 : decode b_Model_read 146 = .ok (.iinc 5 1, 3) := by decide +kernel
theorem d_Model_read_149 : decode b_Model_read 149 = .ok (.goto (-48), 3) := by decide +kernel
theorem d_Model_read_152 : decode b_Model_read 152 = .ok (.aload_n 0, 1) := by decide +kernel
theorem d_Model_read_153 : decode b_Model_read 153 = .ok (.getfield 56, 3) := by decide +kernel
theorem d_Model_read_156 : decode b_Model_read 156 = .ok (.iload_n 1, 1) := by decide +kernel
theorem d_Model_read_157 : decode b_Model_read 157 = .ok (.iaload, 1) := by decide +kernel
theorem d_Model_read_158 : decode b_Model_read 158 = .ok (.iload_n 3, 1) := by decide +kernel
theorem d_Model_read_159 : decode b_Model_read 159 = .ok (.invokestatic 138, 3) := by decide +kernel
theorem d_Model_read_162 : decode b_Model_read 162 = .ok (.iand, 1) := by decide +kernel
theorem d_Model_read_163 : decode b_Model_read 163 = .ok (.ifCond .ne 20, 3) := by decide +kernel
theorem d_Model_read_166 : decode b_Model_read 166 = .ok (.aload_n 0, 1) := by decide +kernel
theorem d_Model_read_167 : decode b_Model_read 167 = .ok (.getfield 65, 3) := by decide +kernel
theorem d_Model_read_170 : decode b_Model_read 170 = .ok (.iconst 2, 1) := by decide +kernel
theorem d_Model_read_171 : decode b_Model_read 171 = .ok (.iload_n 1, 1) := by decide +kernel
theorem d_Model_read_172 : decode b_Model_read 172 = .ok (.imul, 1) := by decide +kernel
theorem d_Model_read_173 : decode b_Model_read 173 = .ok (.iload_n 3, 1) := by decide +kernel
theorem d_Model_read_174 : decode b_Model_read 174 = .ok (.iadd, 1) := by decide +kernel
theorem d_Model_read_175 : decode b_Model_read 175 = .ok (.aload_n 0, 1) := by decide +kernel
theorem d_Model_read_176 : decode b_Model_read 176 = .ok (.getfield 17, 3) := by decide +kernel
theorem d_Model_read_179 : decode b_Model_read 179 = .ok (.iload 4, 2) := by decide +kernel
theorem d_Model_read_181 : decode b_Model_read 181 = .ok (.iaload, 1) := by decide +kernel
theorem d_Model_read_182 : decode b_Model_read 182 = .ok (.iastore, 1) := by decide +kernel
theorem d_Model_read_183 : decode b_Model_read 183 = .ok (.aload_n 0, 1) := by decide +kernel
theorem d_Model_read_184 : decode b_Model_read 184 = .ok (.getfield 56, 3) := by decide +kernel
theorem d_Model_read_187 : decode b_Model_read 187 = .ok (.iload_n 1, 1) := by decide +kernel
theorem d_Model_read_188 : decode b_Model_read 188 = .ok (.dup2, 1) := by decide +kernel
theorem d_Model_read_189 : decode b_Model_read 189 = .ok (.iaload, 1) := by decide +kernel
theorem d_Model_read_190 : decode b_Model_read 190 = .ok (.iconst 1, 1) := by decide +kernel
theorem d_Model_read_191 : decode b_Model_read 191 = .ok (.iload_n 2, 1) := by decide +kernel
theorem d_Model_read_192 : decode b_Model_read 192 = .ok (.ishl, 1) := by decide +kernel
theorem d_Model_read_193 : decode b_Model_read 193 = .ok (.ior, 1) := by decide +kernel
theorem d_Model_read_194 : decode b_Model_read 194 = .ok (.iastore, 1) := by decide +kernel
theorem d_Model_read_195 : decode b_Model_read 195 = .ok (.iconst 0, 1) := by decide +kernel
theorem d_Model_read_196 : decode b_Model_read 196 = .ok (.istore 5, 2) := by decide +kernel
theorem d_Model_read_198 : decode b_Model_read 198 = .ok (.iconst 0, 1) := by decide +kernel
theorem d_Model_read_199 : decode b_Model_read 199 = .ok (.istore 6, 2) := by decide +kernel
theorem d_Model_read_201 : decode b_Model_read 201 = .ok (.iload 6, 2) := by decide +kernel
theorem d_Model_read_203 : decode b_Model_read 203 = .ok (.aload_n 0, 1) := by decide +kernel
theorem d_Model_read_204 : decode b_Model_read 204 = .ok (.getfield 35, 3) := by decide +kernel
theorem d_Model_read_207 : decode b_Model_read 207 = .ok (.iload 4, 2) := by decide +kernel
theorem d_Model_read_209 : decode b_Model_read 209 = .ok (.iaload, 1) := by decide +kernel
theorem d_Model_read_210 : decode b_Model_read 210 = .ok (.if_icmp .ge 51, 3) := by decide +kernel
theorem d_Model_read_213 : decode b_Model_read 213 = .ok (.aload_n 0, 1) := by decide +kernel
theorem d_Model_read_214 : decode b_Model_read 214 = .ok (.iload 4, 2) := by decide +kernel
theorem d_Model_read_216 : decode b_Model_read 216 = .ok (.iload 6, 2) := by decide +kernel
theorem d_Model_read_218 : decode b_Model_read 218 = .ok (.iload_n 2, 1) := by decide +kernel
theorem d_Model_read_219 : decode b_Model_read 219 = .ok (.invokevirtual 156, 3) := by decide +kernel
theorem d_Model_read_222 : decode b_Model_read 222 = .ok (.ifCond .eq 29, 3) := by decide +kernel
theorem d_Model_read_225 : decode b_Model_read 225 = .ok (.aload_n 0, 1) := by decide +kernel
theorem d_Model_read_226 : decode b_Model_read 226 = .ok (.getfield 62, 3) := by decide +kernel
theorem d_Model_read_229 : decode b_Model_read 229 = .ok (.bipush 8, 2) := by decide +kernel
theorem d_Model_read_231 : decode b_Model_read 231 = .ok (.aload_n 0, 1) := by decide +kernel
theorem d_Model_read_232 : decode b_Model_read 232 = .ok (.getfield 47, 3) := by decide +kernel
theorem d_Model_read_235 : decode b_Model_read 235 = .ok (.bipush 60, 2) := by decide +kernel
theorem d_Model_read_237 : decode b_Model_read 237 = .ok (.iload 4, 2) := by decide +kernel
theorem d_Model_read_239 : decode b_Model_read 239 = .ok (.imul, 1) := by decide +kernel
theorem d_Model_read_240 : decode b_Model_read 240 = .ok (.iload 6, 2) := by decide +kernel
theorem d_Model_read_242 : decode b_Model_read 242 = .ok (.iadd, 1) := by decide +kernel
theorem d_Model_read_243 : decode b_Model_read 243 = .ok (.iaload, 1) := by decide +kernel
theorem d_Model_read_244 : decode b_Model_read 244 = .ok (.imul, 1) := by decide +kernel
theorem d_Model_read_245 : decode b_Model_read 245 = .ok (.iload_n 2, 1) := by decide +kernel
theorem d_Model_read_246 : decode b_Model_read 246 = .ok (.iadd, 1) := by decide +kernel
theorem d_Model_read_247 : decode b_Model_read 247 = .ok (.iaload, 1) := by decide +kernel
theorem d_Model_read_248 : decode b_Model_read 248 = .ok (.goto 5, 3) := by decide +kernel
theorem d_Model_read_251 : decode b_Model_read 251 = .ok (.iload 5, 2) := by decide +kernel
theorem d_Model_read_253 : decode b_Model_read 253 = .ok (.istore 5, 2) := by decide +kernel
theorem d_Model_read_255 : decode b_Model_read 255 = .ok (.iinc 6 1, 3) := by decide +kernel
theorem d_Model_read_258 : decode b_Model_read 258 = .ok (.goto (-57), 3) := by decide +kernel
theorem d_Model_read_261 : decode b_Model_read 261 = .ok (.iload 5, 2) := by decide +kernel
theorem d_Model_read_263 : decode b_Model_read 263 = .ok (.ireturn, 1) := by decide +kernel
def B_Model_read_20 (R : Nat → Nat → Nat) (I : St) : Option (Int32 × St) := some ((-1 : Int32), I)
set_option maxHeartbeats 4000000 in
set_option maxRecDepth 100000 in
theorem b_Model_read_20 {p : Program} {l : Launch} {e : Env} {s : State} {m : MethodId} {args : Array Value} {below : List Frame} {meth : Method} {c : Code} {g : Sg} {R : Nat → Nat → Nat} {J : St} {v : Int32} (cx : Cx p s m args meth c g R R_Model b_Model_read 7 (some .int)) : ∀ (I : St) (H : Heap) (locs : List Loc) (ls : Array Slot), B_Model_read_20 R I = some (v, J) → wW g R I H → va_S (· ∈ g.L) s.heap H locs → lv_has ls 7 [] → W p l e { frames := 6, cells := 0, slots := 0, locals := 132 } s m args below meth c H locs 0 0 (MQ below (Qi g R v J) args s 0 0 (· ∈ g.L)) (F0 m 20 ls []) := by
  have ⟨hx, hb, hml, hr, hlk, hown, hall, hT, hK⟩ := cx
  intro I H locs ls h hP hS hl
  unfold B_Model_read_20 at h
  refine lv_iconst (v := (-1)) hx hb d_Model_read_20 (by decide) ?_
  obtain ⟨rfl, rfl⟩ := rt_el h
  exact gg_iret hx hb hr hlk hK hP hS d_Model_read_21
def B_Model_read_146 (R : Nat → Nat → Nat) (k101 : Nat → Int32 → Int32 → Int32 → Int32 → Int32 → St → Option (Int32 × St)) (a0 : Nat) (x1 : Int32) (x2 : Int32) (x3 : Int32) (x4 : Int32) (x5 : Int32) (I : St) : Option (Int32 × St) := k101 a0 x1 x2 x3 x4 (x5 + 1) I
set_option maxHeartbeats 4000000 in
set_option maxRecDepth 100000 in
theorem b_Model_read_146 {p : Program} {l : Launch} {e : Env} {s : State} {m : MethodId} {args : Array Value} {below : List Frame} {meth : Method} {c : Code} {g : Sg} {R : Nat → Nat → Nat} {J : St} {v : Int32} (cx : Cx p s m args meth c g R R_Model b_Model_read 7 (some .int)) {k101 : Nat → Int32 → Int32 → Int32 → Int32 → Int32 → St → Option (Int32 × St)} (hk101 : ∀ (a0 : Nat) (x1 : Int32) (x2 : Int32) (x3 : Int32) (x4 : Int32) (x5 : Int32) (I : St) (H : Heap) (locs : List Loc) (ls : Array Slot), okA g 5 0 a0 → k101 a0 x1 x2 x3 x4 x5 I = some (v, J) → wW g R I H → va_S (· ∈ g.L) s.heap H locs → lv_has ls 7 [(0, .ref a0), (1, .int x1), (2, .int x2), (3, .int x3), (4, .int x4), (5, .int x5)] → W p l e { frames := 6, cells := 0, slots := 0, locals := 132 } s m args below meth c H locs 0 0 (MQ below (Qi g R v J) args s 0 0 (· ∈ g.L)) (F0 m 101 ls [])) : ∀ (a0 : Nat) (x1 : Int32) (x2 : Int32) (x3 : Int32) (x4 : Int32) (x5 : Int32) (I : St) (H : Heap) (locs : List Loc) (ls : Array Slot), okA g 5 0 a0 → B_Model_read_146 R k101 a0 x1 x2 x3 x4 x5 I = some (v, J) → wW g R I H → va_S (· ∈ g.L) s.heap H locs → lv_has ls 7 [(0, .ref a0), (1, .int x1), (2, .int x2), (3, .int x3), (4, .int x4), (5, .int x5)] → W p l e { frames := 6, cells := 0, slots := 0, locals := 132 } s m args below meth c H locs 0 0 (MQ below (Qi g R v J) args s 0 0 (· ∈ g.L)) (F0 m 146 ls []) := by
  have ⟨hx, hb, hml, hr, hlk, hown, hall, hT, hK⟩ := cx
  intro a0 x1 x2 x3 x4 x5 I H locs ls o0 h hP hS hl
  unfold B_Model_read_146 at h
  refine lv_iinc (k := 5) (v := (x5 + 1)) (lv' := [(5, .int (x5 + 1)), (0, .ref a0), (1, .int x1), (2, .int x2), (3, .int x3), (4, .int x4)]) hx hb d_Model_read_146 hl rfl (by rw [show Int32.ofInt 1 = (1 : Int32) from by decide]) (Nat.le_of_ble_eq_true rfl) rfl (fun ls hl => ?_)
  refine lv_goto hx hb d_Model_read_149 rfl ?_
  exact hk101 _ _ _ _ _ _ _ _ _ _ o0 h hP hS (lv_sub hl [1, 2, 3, 4, 5, 0] rfl)
def B_Model_read_253 (R : Nat → Nat → Nat) (k201 : Nat → Int32 → Int32 → Int32 → Int32 → St → Option (Int32 × St)) (a0 : Nat) (x2 : Int32) (x4 : Int32) (x6 : Int32) (t0 : Int32) (I : St) : Option (Int32 × St) := k201 a0 x2 x4 t0 (x6 + 1) I
set_option maxHeartbeats 4000000 in
set_option maxRecDepth 100000 in
theorem b_Model_read_253 {p : Program} {l : Launch} {e : Env} {s : State} {m : MethodId} {args : Array Value} {below : List Frame} {meth : Method} {c : Code} {g : Sg} {R : Nat → Nat → Nat} {J : St} {v : Int32} (cx : Cx p s m args meth c g R R_Model b_Model_read 7 (some .int)) {k201 : Nat → Int32 → Int32 → Int32 → Int32 → St → Option (Int32 × St)} (hk201 : ∀ (a0 : Nat) (x2 : Int32) (x4 : Int32) (x5 : Int32) (x6 : Int32) (I : St) (H : Heap) (locs : List Loc) (ls : Array Slot), okA g 5 0 a0 → k201 a0 x2 x4 x5 x6 I = some (v, J) → wW g R I H → va_S (· ∈ g.L) s.heap H locs → lv_has ls 7 [(0, .ref a0), (2, .int x2), (4, .int x4), (5, .int x5), (6, .int x6)] → W p l e { frames := 6, cells := 0, slots := 0, locals := 132 } s m args below meth c H locs 0 0 (MQ below (Qi g R v J) args s 0 0 (· ∈ g.L)) (F0 m 201 ls [])) : ∀ (a0 : Nat) (x2 : Int32) (x4 : Int32) (x6 : Int32) (t0 : Int32) (I : St) (H : Heap) (locs : List Loc) (ls : Array Slot), okA g 5 0 a0 → B_Model_read_253 R k201 a0 x2 x4 x6 t0 I = some (v, J) → wW g R I H → va_S (· ∈ g.L) s.heap H locs → lv_has ls 7 [(0, .ref a0), (2, .int x2), (4, .int x4), (6, .int x6)] → W p l e { frames := 6, cells := 0, slots := 0, locals := 132 } s m args below meth c H locs 0 0 (MQ below (Qi g R v J) args s 0 0 (· ∈ g.L)) (F0 m 253 ls [.int t0]) := by
  have ⟨hx, hb, hml, hr, hlk, hown, hall, hT, hK⟩ := cx
  intro a0 x2 x4 x6 t0 I H locs ls o0 h hP hS hl
  unfold B_Model_read_253 at h
  refine lv_istore (lv' := [(5, .int t0), (0, .ref a0), (2, .int x2), (4, .int x4), (6, .int x6)]) hx hb d_Model_read_253 hl (Nat.le_of_ble_eq_true rfl) rfl (fun ls hl => ?_)
  refine lv_iinc (k := 4) (v := (x6 + 1)) (lv' := [(6, .int (x6 + 1)), (5, .int t0), (0, .ref a0), (2, .int x2), (4, .int x4)]) hx hb d_Model_read_255 hl rfl (by rw [show Int32.ofInt 1 = (1 : Int32) from by decide]) (Nat.le_of_ble_eq_true rfl) rfl (fun ls hl => ?_)
  refine lv_goto hx hb d_Model_read_258 rfl ?_
  exact hk201 _ _ _ _ _ _ _ _ _ o0 h hP hS (lv_sub hl [2, 3, 4, 1, 0] rfl)
def B_Model_read_201 (R : Nat → Nat → Nat) : Nat → Nat → Int32 → Int32 → Int32 → Int32 → St → Option (Int32 × St)
  | 0, _, _, _, _, _, _ => none
  | f + 1, a0, x2, x4, x5, x6, I => (chk x4 6 ((if (I (R a0 10) x4.toNatClampNeg) ≤ x6 then some (x5, I) else (ob (F_Model_isVersion R a0 x4 x6 x2 I) (fun v219 => (if v219 = 0 then B_Model_read_253 R (B_Model_read_201 R f) a0 x2 x4 x6 x5 I else (chk (((60 : Int32) * x4) + x6) 360 ((chk (((8 : Int32) * (I (R a0 14) (((60 : Int32) * x4) + x6).toNatClampNeg)) + x2) 128 (B_Model_read_253 R (B_Model_read_201 R f) a0 x2 x4 x6 (I (R a0 20) (((8 : Int32) * (I (R a0 14) (((60 : Int32) * x4) + x6).toNatClampNeg)) + x2).toNatClampNeg) I))))))))))
set_option maxHeartbeats 4000000 in
set_option maxRecDepth 100000 in
theorem b_Model_read_201 {p : Program} {l : Launch} {e : Env} {s : State} {m : MethodId} {args : Array Value} {below : List Frame} {meth : Method} {c : Code} {g : Sg} {R : Nat → Nat → Nat} {J : St} {v : Int32} (cx : Cx p s m args meth c g R R_Model b_Model_read 7 (some .int)) (f : Nat) : ∀ (a0 : Nat) (x2 : Int32) (x4 : Int32) (x5 : Int32) (x6 : Int32) (I : St) (H : Heap) (locs : List Loc) (ls : Array Slot), okA g 5 0 a0 → B_Model_read_201 R f a0 x2 x4 x5 x6 I = some (v, J) → wW g R I H → va_S (· ∈ g.L) s.heap H locs → lv_has ls 7 [(0, .ref a0), (2, .int x2), (4, .int x4), (5, .int x5), (6, .int x6)] → W p l e { frames := 6, cells := 0, slots := 0, locals := 132 } s m args below meth c H locs 0 0 (MQ below (Qi g R v J) args s 0 0 (· ∈ g.L)) (F0 m 201 ls []) := by
  have ⟨hx, hb, hml, hr, hlk, hown, hall, hT, hK⟩ := cx
  induction f with
  | zero => intro a0 x2 x4 x5 x6 I H locs ls o0 h; unfold B_Model_read_201 at h; cases h
  | succ f ih =>
    intro a0 x2 x4 x5 x6 I H locs ls o0 h hP hS hl
    unfold B_Model_read_201 at h
    refine lv_iload hx hb d_Model_read_201 (lv_at hl 4 rfl) ?_
    refine lv_aload_n hx hb d_Model_read_203 rfl (lv_at hl 0 rfl) ?_
    refine gg_get (C := R_Model) (T := F_Model) (N := 23) (ci := 5) hx hb hall i_Model hown hK hP o0.1 (wE_5 o0.2) rfl 10 (by decide) (hall _ m_349) (fun _ h9 => h9) rfl d_Model_read_204 ?_
    have o_204 : okA g 6 6 (R a0 10) := ty_Model_10 hT o0
    refine lv_iload hx hb d_Model_read_207 (lv_at hl 2 rfl) ?_
    obtain ⟨hi209, h⟩ := chk_el h
    refine gg_iald hx hb hK hP o_204 hi209 d_Model_read_209 ?_
    refine lv_icmp_ge hx hb d_Model_read_210 rfl (fun hc => ?_) (fun hc => ?_)
    · replace h := i_pos hc h
      refine lv_iload hx hb d_Model_read_261 (lv_at hl 3 rfl) ?_
      obtain ⟨rfl, rfl⟩ := rt_el h
      exact gg_iret hx hb hr hlk hK hP hS d_Model_read_263
    · replace h := i_neg hc h
      refine lv_aload_n hx hb d_Model_read_213 rfl (lv_at hl 0 rfl) ?_
      refine lv_iload hx hb d_Model_read_214 (lv_at hl 2 rfl) ?_
      refine lv_iload hx hb d_Model_read_216 (lv_at hl 4 rfl) ?_
      refine lv_iload_n hx hb d_Model_read_218 rfl (lv_at hl 1 rfl) ?_
      obtain ⟨v219, e219, h⟩ := ob_el h
      refine gg_Vi (As := [.int x4, .int x6, .int x2]) (rest := []) (ci := 5) (C := R_Model) (T := F_Model) (N := 23) ⟨hx, hb, hml, hown, hall⟩ (c_Model_isVersion l hT o0 e219) (cwV 3 hall (gV m_442 m_443 m_444 m_338 m_440) rfl rfl rfl (by decide +kernel) ⟨Nat.le_of_ble_eq_true rfl, Nat.le_of_ble_eq_true rfl⟩) hK hP hS o0.1 (wE_5 o0.2) rfl rfl hl.1 rfl (Nat.le_of_ble_eq_true rfl) d_Model_read_219 (fun H locs hP hS => ?_)
      refine lv_if_eq hx hb d_Model_read_222 rfl (fun hc => ?_) (fun hc => ?_)
      · replace h := i_pos hc h
        refine lv_iload hx hb d_Model_read_251 (lv_at hl 3 rfl) ?_
        exact b_Model_read_253 cx ih _ _ _ _ _ _ _ _ _ o0 h hP hS (lv_sub hl [0, 1, 2, 4] rfl)
      · replace h := i_neg hc h
        refine lv_aload_n hx hb d_Model_read_225 rfl (lv_at hl 0 rfl) ?_
        refine gg_get (C := R_Model) (T := F_Model) (N := 23) (ci := 5) hx hb hall i_Model hown hK hP o0.1 (wE_5 o0.2) rfl 20 (by decide) (hall _ m_445) (fun _ h9 => h9) rfl d_Model_read_226 ?_
        have o_226 : okA g 6 128 (R a0 20) := ty_Model_20 hT o0
        refine lv_bipush (v := 8) hx hb d_Model_read_229 (by decide) ?_
        refine lv_aload_n hx hb d_Model_read_231 rfl (lv_at hl 0 rfl) ?_
        refine gg_get (C := R_Model) (T := F_Model) (N := 23) (ci := 5) hx hb hall i_Model hown hK hP o0.1 (wE_5 o0.2) rfl 14 (by decide) (hall _ m_370) (fun _ h9 => h9) rfl d_Model_read_232 ?_
        have o_232 : okA g 6 360 (R a0 14) := ty_Model_14 hT o0
        refine lv_bipush (v := 60) hx hb d_Model_read_235 (by decide) ?_
        refine lv_iload hx hb d_Model_read_237 (lv_at hl 2 rfl) ?_
        refine lv_imul hx hb d_Model_read_239 ?_
        refine lv_iload hx hb d_Model_read_240 (lv_at hl 4 rfl) ?_
        refine lv_iadd hx hb d_Model_read_242 ?_
        obtain ⟨hi243, h⟩ := chk_el h
        refine gg_iald hx hb hK hP o_232 hi243 d_Model_read_243 ?_
        refine lv_imul hx hb d_Model_read_244 ?_
        refine lv_iload_n hx hb d_Model_read_245 rfl (lv_at hl 1 rfl) ?_
        refine lv_iadd hx hb d_Model_read_246 ?_
        obtain ⟨hi247, h⟩ := chk_el h
        refine gg_iald hx hb hK hP o_226 hi247 d_Model_read_247 ?_
        refine lv_goto hx hb d_Model_read_248 rfl ?_
        exact b_Model_read_253 cx ih _ _ _ _ _ _ _ _ _ o0 h hP hS (lv_sub hl [0, 1, 2, 4] rfl)
def B_Model_read_183 (R : Nat → Nat → Nat) (a0 : Nat) (x1 : Int32) (x2 : Int32) (x4 : Int32) (I : St) : Option (Int32 × St) := (chk x1 16 ((chk x1 16 (ap (up2 I (R a0 18) x1.toNatClampNeg ((I (R a0 18) x1.toNatClampNeg) ||| ((1 : Int32) <<< (x2 &&& 31)))) (fun I194 => B_Model_read_201 R 100 a0 x2 x4 (0 : Int32) (0 : Int32) I194)))))
set_option maxHeartbeats 4000000 in
set_option maxRecDepth 100000 in
theorem b_Model_read_183 {p : Program} {l : Launch} {e : Env} {s : State} {m : MethodId} {args : Array Value} {below : List Frame} {meth : Method} {c : Code} {g : Sg} {R : Nat → Nat → Nat} {J : St} {v : Int32} (cx : Cx p s m args meth c g R R_Model b_Model_read 7 (some .int)) : ∀ (a0 : Nat) (x1 : Int32) (x2 : Int32) (x4 : Int32) (I : St) (H : Heap) (locs : List Loc) (ls : Array Slot), okA g 5 0 a0 → B_Model_read_183 R a0 x1 x2 x4 I = some (v, J) → wW g R I H → va_S (· ∈ g.L) s.heap H locs → lv_has ls 7 [(0, .ref a0), (1, .int x1), (2, .int x2), (4, .int x4)] → W p l e { frames := 6, cells := 0, slots := 0, locals := 132 } s m args below meth c H locs 0 0 (MQ below (Qi g R v J) args s 0 0 (· ∈ g.L)) (F0 m 183 ls []) := by
  have ⟨hx, hb, hml, hr, hlk, hown, hall, hT, hK⟩ := cx
  intro a0 x1 x2 x4 I H locs ls o0 h hP hS hl
  unfold B_Model_read_183 at h
  refine lv_aload_n hx hb d_Model_read_183 rfl (lv_at hl 0 rfl) ?_
  refine gg_get (C := R_Model) (T := F_Model) (N := 23) (ci := 5) hx hb hall i_Model hown hK hP o0.1 (wE_5 o0.2) rfl 18 (by decide) (hall _ m_422) (fun _ h9 => h9) rfl d_Model_read_184 ?_
  have o_184 : okA g 6 16 (R a0 18) := ty_Model_18 hT o0
  refine lv_iload_n hx hb d_Model_read_187 rfl (lv_at hl 1 rfl) ?_
  refine lv_dup2_11 hx hb d_Model_read_188 rfl rfl ?_
  obtain ⟨hi189, h⟩ := chk_el h
  refine gg_iald hx hb hK hP o_184 hi189 d_Model_read_189 ?_
  refine lv_iconst (v := 1) hx hb d_Model_read_190 (by decide) ?_
  refine lv_iload_n hx hb d_Model_read_191 rfl (lv_at hl 2 rfl) ?_
  refine lv_ishl hx hb d_Model_read_192 ?_
  refine lv_ior hx hb d_Model_read_193 ?_
  obtain ⟨hi194, h⟩ := chk_el h
  refine gg_iast hx hb hT.1 hK hP hS o_184 hi194 d_Model_read_194 (fun I194 H locs e194 hP hS => ?_)
  replace h := ap_el e194 h
  refine lv_iconst (v := 0) hx hb d_Model_read_195 (by decide) ?_
  refine lv_istore (lv' := [(5, .int (0 : Int32)), (0, .ref a0), (1, .int x1), (2, .int x2), (4, .int x4)]) hx hb d_Model_read_196 hl (Nat.le_of_ble_eq_true rfl) rfl (fun ls hl => ?_)
  refine lv_iconst (v := 0) hx hb d_Model_read_198 (by decide) ?_
  refine lv_istore (lv' := [(6, .int (0 : Int32)), (5, .int (0 : Int32)), (0, .ref a0), (1, .int x1), (2, .int x2), (4, .int x4)]) hx hb d_Model_read_199 hl (Nat.le_of_ble_eq_true rfl) rfl (fun ls hl => ?_)
  exact b_Model_read_201 cx 100 _ _ _ _ _ _ _ _ _ o0 h hP hS (lv_sub hl [2, 4, 5, 1, 0] rfl)
def B_Model_read_101 (R : Nat → Nat → Nat) : Nat → Nat → Int32 → Int32 → Int32 → Int32 → Int32 → St → Option (Int32 × St)
  | 0, _, _, _, _, _, _, _ => none
  | f + 1, a0, x1, x2, x3, x4, x5, I => (if (I a0 16) ≤ x5 then (chk x1 16 ((ob (F_Model_bits R x3 I) (fun v159 => (if ((I (R a0 18) x1.toNatClampNeg) &&& v159) = 0 then (chk x4 6 ((chk (((2 : Int32) * x1) + x3) 32 (ap (up2 I (R a0 21) (((2 : Int32) * x1) + x3).toNatClampNeg (I (R a0 4) x4.toNatClampNeg)) (fun I182 => B_Model_read_183 R a0 x1 x2 x4 I182))))) else B_Model_read_183 R a0 x1 x2 x4 I))))) else (if x5 = x1 then B_Model_read_146 R (B_Model_read_101 R f) a0 x1 x2 x3 x4 x5 I else (chk x5 16 ((if (((I (R a0 19) x5.toNatClampNeg) >>> (x2 &&& 31)) &&& (1 : Int32)) = (1 : Int32) then (ob (F_Model_logHolds R a0 x4 x5 x2 I) (fun v137 => (if v137 = 0 then B_Model_read_146 R (B_Model_read_101 R f) a0 x1 x2 x3 x4 x5 I else some ((-4 : Int32), I)))) else B_Model_read_146 R (B_Model_read_101 R f) a0 x1 x2 x3 x4 x5 I)))))
set_option maxHeartbeats 4000000 in
set_option maxRecDepth 100000 in
theorem b_Model_read_101 {p : Program} {l : Launch} {e : Env} {s : State} {m : MethodId} {args : Array Value} {below : List Frame} {meth : Method} {c : Code} {g : Sg} {R : Nat → Nat → Nat} {J : St} {v : Int32} (cx : Cx p s m args meth c g R R_Model b_Model_read 7 (some .int)) (f : Nat) : ∀ (a0 : Nat) (x1 : Int32) (x2 : Int32) (x3 : Int32) (x4 : Int32) (x5 : Int32) (I : St) (H : Heap) (locs : List Loc) (ls : Array Slot), okA g 5 0 a0 → B_Model_read_101 R f a0 x1 x2 x3 x4 x5 I = some (v, J) → wW g R I H → va_S (· ∈ g.L) s.heap H locs → lv_has ls 7 [(0, .ref a0), (1, .int x1), (2, .int x2), (3, .int x3), (4, .int x4), (5, .int x5)] → W p l e { frames := 6, cells := 0, slots := 0, locals := 132 } s m args below meth c H locs 0 0 (MQ below (Qi g R v J) args s 0 0 (· ∈ g.L)) (F0 m 101 ls []) := by
  have ⟨hx, hb, hml, hr, hlk, hown, hall, hT, hK⟩ := cx
  induction f with
  | zero => intro a0 x1 x2 x3 x4 x5 I H locs ls o0 h; unfold B_Model_read_101 at h; cases h
  | succ f ih =>
    intro a0 x1 x2 x3 x4 x5 I H locs ls o0 h hP hS hl
    unfold B_Model_read_101 at h
    refine lv_iload hx hb d_Model_read_101 (lv_at hl 5 rfl) ?_
    refine lv_aload_n hx hb d_Model_read_103 rfl (lv_at hl 0 rfl) ?_
    refine gg_get (C := R_Model) (T := F_Model) (N := 23) (ci := 5) hx hb hall i_Model hown hK hP o0.1 (wE_5 o0.2) rfl 16 (by decide) (hall _ m_419) (fun _ h9 => h9) rfl d_Model_read_104 ?_
    refine lv_icmp_ge hx hb d_Model_read_107 rfl (fun hc => ?_) (fun hc => ?_)
    · replace h := i_pos hc h
      refine lv_aload_n hx hb d_Model_read_152 rfl (lv_at hl 0 rfl) ?_
      refine gg_get (C := R_Model) (T := F_Model) (N := 23) (ci := 5) hx hb hall i_Model hown hK hP o0.1 (wE_5 o0.2) rfl 18 (by decide) (hall _ m_422) (fun _ h9 => h9) rfl d_Model_read_153 ?_
      have o_153 : okA g 6 16 (R a0 18) := ty_Model_18 hT o0
      refine lv_iload_n hx hb d_Model_read_156 rfl (lv_at hl 1 rfl) ?_
      obtain ⟨hi157, h⟩ := chk_el h
      refine gg_iald hx hb hK hP o_153 hi157 d_Model_read_157 ?_
      refine lv_iload_n hx hb d_Model_read_158 rfl (lv_at hl 3 rfl) ?_
      obtain ⟨v159, e159, h⟩ := ob_el h
      refine gg_Si (As := [.int x3]) (rest := [.int (I (R a0 18) x1.toNatClampNeg)]) ⟨hx, hb, hml, hown, hall⟩ (c_Model_bits l hT e159) (cwS 1 hall (gS m_424 m_425 m_338 m_421) rfl rfl rfl (by decide +kernel) ⟨Nat.le_of_ble_eq_true rfl, Nat.le_of_ble_eq_true rfl⟩) hK hP hS rfl hl.1 rfl (Nat.le_of_ble_eq_true rfl) d_Model_read_159 (fun H locs hP hS => ?_)
      refine lv_iand hx hb d_Model_read_162 ?_
      refine lv_if_ne hx hb d_Model_read_163 rfl (fun hc => ?_) (fun hc => ?_)
      · replace h := i_neg hc h
        exact b_Model_read_183 cx _ _ _ _ _ _ _ _ o0 h hP hS (lv_sub hl [0, 1, 2, 4] rfl)
      · replace h := i_pos hc h
        refine lv_aload_n hx hb d_Model_read_166 rfl (lv_at hl 0 rfl) ?_
        refine gg_get (C := R_Model) (T := F_Model) (N := 23) (ci := 5) hx hb hall i_Model hown hK hP o0.1 (wE_5 o0.2) rfl 21 (by decide) (hall _ m_427) (fun _ h9 => h9) rfl d_Model_read_167 ?_
        have o_167 : okA g 6 32 (R a0 21) := ty_Model_21 hT o0
        refine lv_iconst (v := 2) hx hb d_Model_read_170 (by decide) ?_
        refine lv_iload_n hx hb d_Model_read_171 rfl (lv_at hl 1 rfl) ?_
        refine lv_imul hx hb d_Model_read_172 ?_
        refine lv_iload_n hx hb d_Model_read_173 rfl (lv_at hl 3 rfl) ?_
        refine lv_iadd hx hb d_Model_read_174 ?_
        refine lv_aload_n hx hb d_Model_read_175 rfl (lv_at hl 0 rfl) ?_
        refine gg_get (C := R_Model) (T := F_Model) (N := 23) (ci := 5) hx hb hall i_Model hown hK hP o0.1 (wE_5 o0.2) rfl 4 (by decide) (hall _ m_354) (fun _ h9 => h9) rfl d_Model_read_176 ?_
        have o_176 : okA g 6 6 (R a0 4) := ty_Model_4 hT o0
        refine lv_iload hx hb d_Model_read_179 (lv_at hl 4 rfl) ?_
        obtain ⟨hi181, h⟩ := chk_el h
        refine gg_iald hx hb hK hP o_176 hi181 d_Model_read_181 ?_
        obtain ⟨hi182, h⟩ := chk_el h
        refine gg_iast hx hb hT.1 hK hP hS o_167 hi182 d_Model_read_182 (fun I182 H locs e182 hP hS => ?_)
        replace h := ap_el e182 h
        exact b_Model_read_183 cx _ _ _ _ _ _ _ _ o0 h hP hS (lv_sub hl [0, 1, 2, 4] rfl)
    · replace h := i_neg hc h
      refine lv_iload hx hb d_Model_read_110 (lv_at hl 5 rfl) ?_
      refine lv_iload_n hx hb d_Model_read_112 rfl (lv_at hl 1 rfl) ?_
      refine lv_icmp_eq hx hb d_Model_read_113 rfl (fun hc => ?_) (fun hc => ?_)
      · replace h := i_pos hc h
        exact b_Model_read_146 cx ih _ _ _ _ _ _ _ _ _ _ o0 h hP hS (lv_sub hl [0, 1, 2, 3, 4, 5] rfl)
      · replace h := i_neg hc h
        refine lv_aload_n hx hb d_Model_read_116 rfl (lv_at hl 0 rfl) ?_
        refine gg_get (C := R_Model) (T := F_Model) (N := 23) (ci := 5) hx hb hall i_Model hown hK hP o0.1 (wE_5 o0.2) rfl 19 (by decide) (hall _ m_423) (fun _ h9 => h9) rfl d_Model_read_117 ?_
        have o_117 : okA g 6 16 (R a0 19) := ty_Model_19 hT o0
        refine lv_iload hx hb d_Model_read_120 (lv_at hl 5 rfl) ?_
        obtain ⟨hi122, h⟩ := chk_el h
        refine gg_iald hx hb hK hP o_117 hi122 d_Model_read_122 ?_
        refine lv_iload_n hx hb d_Model_read_123 rfl (lv_at hl 2 rfl) ?_
        refine lv_ishr hx hb d_Model_read_124 ?_
        refine lv_iconst (v := 1) hx hb d_Model_read_125 (by decide) ?_
        refine lv_iand hx hb d_Model_read_126 ?_
        refine lv_iconst (v := 1) hx hb d_Model_read_127 (by decide) ?_
        refine lv_icmp_ne hx hb d_Model_read_128 rfl (fun hc => ?_) (fun hc => ?_)
        · replace h := i_neg hc h
          exact b_Model_read_146 cx ih _ _ _ _ _ _ _ _ _ _ o0 h hP hS (lv_sub hl [0, 1, 2, 3, 4, 5] rfl)
        · replace h := i_pos hc h
          refine lv_aload_n hx hb d_Model_read_131 rfl (lv_at hl 0 rfl) ?_
          refine lv_iload hx hb d_Model_read_132 (lv_at hl 4 rfl) ?_
          refine lv_iload hx hb d_Model_read_134 (lv_at hl 5 rfl) ?_
          refine lv_iload_n hx hb d_Model_read_136 rfl (lv_at hl 2 rfl) ?_
          obtain ⟨v137, e137, h⟩ := ob_el h
          refine gg_Vi (As := [.int x4, .int x5, .int x2]) (rest := []) (ci := 5) (C := R_Model) (T := F_Model) (N := 23) ⟨hx, hb, hml, hown, hall⟩ (c_Model_logHolds l hT o0 e137) (cwV 3 hall (gV m_446 m_447 m_448 m_338 m_439) rfl rfl rfl (by decide +kernel) ⟨Nat.le_of_ble_eq_true rfl, Nat.le_of_ble_eq_true rfl⟩) hK hP hS o0.1 (wE_5 o0.2) rfl rfl hl.1 rfl (Nat.le_of_ble_eq_true rfl) d_Model_read_137 (fun H locs hP hS => ?_)
          refine lv_if_eq hx hb d_Model_read_140 rfl (fun hc => ?_) (fun hc => ?_)
          · replace h := i_pos hc h
            exact b_Model_read_146 cx ih _ _ _ _ _ _ _ _ _ _ o0 h hP hS (lv_sub hl [0, 1, 2, 3, 4, 5] rfl)
          · replace h := i_neg hc h
            refine lv_bipush (v := (-4)) hx hb d_Model_read_143 (by decide) ?_
            obtain ⟨rfl, rfl⟩ := rt_el h
            exact gg_iret hx hb hr hlk hK hP hS d_Model_read_145
def F_Model_read (R : Nat → Nat → Nat) (a0 : Nat) (x1 : Int32) (x2 : Int32) (I : St) : Option (Int32 × St) := (ob (F_Model_below R x1 (I a0 16) I) (fun v5 => (if v5 = 0 then B_Model_read_20 R I else (ob (F_Model_below R x2 (8 : Int32) I) (fun v14 => (if v14 = 0 then B_Model_read_20 R I else (chk x1 16 ((if (I (R a0 17) x1.toNatClampNeg) = 0 then (chk x1 16 ((if (((I (R a0 19) x1.toNatClampNeg) >>> (x2 &&& 31)) &&& (1 : Int32)) = (1 : Int32) then (chk (((8 : Int32) * x1) + x2) 128 (some ((I (R a0 20) (((8 : Int32) * x1) + x2).toNatClampNeg), I))) else (ob (F_Model_ready R a0 (x2 / (4 : Int32)) I) (fun v66 => (if 0 ≤ v66 then (ob (F_Model_lost R a0 x1 (x2 / (4 : Int32)) I) (fun v82 => (if v82 = 0 then B_Model_read_101 R 100 a0 x1 x2 (x2 / (4 : Int32)) v66 (0 : Int32) I else (chk x1 16 (ap (up2 I (R a0 17) x1.toNatClampNeg (4 : Int32)) (fun I94 => some ((-2 : Int32), I94))))))) else some ((-3 : Int32), I))))))) else some ((-2 : Int32), I))))))))))
set_option maxHeartbeats 4000000 in
set_option maxRecDepth 100000 in
theorem c_Model_read (l : Launch) {g : Sg} {R : Nat → Nat → Nat} (hT : Ty g R) {a0 : Nat} (o0 : okA g 5 0 a0) {x1 : Int32} {x2 : Int32} {I : St} {J : St} {v : Int32} (h : F_Model_read R a0 x1 x2 I = some (v, J)) : Cti l g R y_Model_read w_Model_read 6 132 [.ref a0, .int x1, .int x2] I v J := by
  unfold Cti
  refine Met.ofW (cc := b_Model_read) (maxL := 7) (ret := (some .int)) (by decide) rfl ?_
  intro p e s m args below meth c s₁ B hml hv
  obtain ⟨rfl, hP, hK⟩ := hv
  have hts := atoms_spec (ws := w_Model_read) B.pre
  have hall : ∀ w ∈ w_all, w.before _ s = true := fun w hw => hts w (List.mem_cons_of_mem _ hw)
  have hown : s.vm.findClass R_Model = some m.cls := findClass_of_methodNamed B.named
  have hx := B.exec
  have hb := B.bytes
  have hr := B.returns
  have hlk := B.notSynchronized
  have cx : Cx p s m _ meth c g R R_Model b_Model_read 7 (some .int) := ⟨hx, hb, hml, hr, hlk, hown, hall, hT, hK⟩
  have hl := lv_entry ([.ref a0, .int x1, .int x2]) (n := 7) (Nat.le_of_ble_eq_true rfl)
  rw [lg_entry_eq]
  generalize (lg_sl ([.ref a0, .int x1, .int x2]) ++ List.replicate (7 - (lg_sl ([.ref a0, .int x1, .int x2])).length) Slot.unset).toArray = ls at hl ⊢
  have hl : lv_has ls 7 [(0, .ref a0), (1, .int x1), (2, .int x2)] := hl
  have hS : va_S (· ∈ g.L) s.heap s.heap [] := va_S.rf
  unfold F_Model_read at h
  refine lv_iload_n hx hb d_Model_read_0 rfl (lv_at hl 1 rfl) ?_
  refine lv_aload_n hx hb d_Model_read_1 rfl (lv_at hl 0 rfl) ?_
  refine gg_get (C := R_Model) (T := F_Model) (N := 23) (ci := 5) hx hb hall i_Model hown hK hP o0.1 (wE_5 o0.2) rfl 16 (by decide) (hall _ m_419) (fun _ h9 => h9) rfl d_Model_read_2 ?_
  obtain ⟨v5, e5, h⟩ := ob_el h
  refine gg_Si (As := [.int x1, .int (I a0 16)]) (rest := []) ⟨hx, hb, hml, hown, hall⟩ (c_Model_below l hT e5) (cwS 2 hall (gS m_336 m_337 m_338 m_329) rfl rfl rfl (by decide +kernel) ⟨Nat.le_of_ble_eq_true rfl, Nat.le_of_ble_eq_true rfl⟩) hK hP hS rfl hl.1 rfl (Nat.le_of_ble_eq_true rfl) d_Model_read_5 (fun H locs hP hS => ?_)
  refine lv_if_eq hx hb d_Model_read_8 rfl (fun hc => ?_) (fun hc => ?_)
  · replace h := i_pos hc h
    exact b_Model_read_20 cx _ _ _ _ h hP hS (lv_sub hl [] rfl)
  · replace h := i_neg hc h
    refine lv_iload_n hx hb d_Model_read_11 rfl (lv_at hl 2 rfl) ?_
    refine lv_bipush (v := 8) hx hb d_Model_read_12 (by decide) ?_
    obtain ⟨v14, e14, h⟩ := ob_el h
    refine gg_Si (As := [.int x2, .int (8 : Int32)]) (rest := []) ⟨hx, hb, hml, hown, hall⟩ (c_Model_below l hT e14) (cwS 2 hall (gS m_336 m_337 m_338 m_329) rfl rfl rfl (by decide +kernel) ⟨Nat.le_of_ble_eq_true rfl, Nat.le_of_ble_eq_true rfl⟩) hK hP hS rfl hl.1 rfl (Nat.le_of_ble_eq_true rfl) d_Model_read_14 (fun H locs hP hS => ?_)
    refine lv_if_ne hx hb d_Model_read_17 rfl (fun hc => ?_) (fun hc => ?_)
    · replace h := i_neg hc h
      refine lv_aload_n hx hb d_Model_read_22 rfl (lv_at hl 0 rfl) ?_
      refine gg_get (C := R_Model) (T := F_Model) (N := 23) (ci := 5) hx hb hall i_Model hown hK hP o0.1 (wE_5 o0.2) rfl 17 (by decide) (hall _ m_449) (fun _ h9 => h9) rfl d_Model_read_23 ?_
      have o_23 : okA g 6 16 (R a0 17) := ty_Model_17 hT o0
      refine lv_iload_n hx hb d_Model_read_26 rfl (lv_at hl 1 rfl) ?_
      obtain ⟨hi27, h⟩ := chk_el h
      refine gg_iald hx hb hK hP o_23 hi27 d_Model_read_27 ?_
      refine lv_if_eq hx hb d_Model_read_28 rfl (fun hc => ?_) (fun hc => ?_)
      · replace h := i_pos hc h
        refine lv_aload_n hx hb d_Model_read_34 rfl (lv_at hl 0 rfl) ?_
        refine gg_get (C := R_Model) (T := F_Model) (N := 23) (ci := 5) hx hb hall i_Model hown hK hP o0.1 (wE_5 o0.2) rfl 19 (by decide) (hall _ m_423) (fun _ h9 => h9) rfl d_Model_read_35 ?_
        have o_35 : okA g 6 16 (R a0 19) := ty_Model_19 hT o0
        refine lv_iload_n hx hb d_Model_read_38 rfl (lv_at hl 1 rfl) ?_
        obtain ⟨hi39, h⟩ := chk_el h
        refine gg_iald hx hb hK hP o_35 hi39 d_Model_read_39 ?_
        refine lv_iload_n hx hb d_Model_read_40 rfl (lv_at hl 2 rfl) ?_
        refine lv_ishr hx hb d_Model_read_41 ?_
        refine lv_iconst (v := 1) hx hb d_Model_read_42 (by decide) ?_
        refine lv_iand hx hb d_Model_read_43 ?_
        refine lv_iconst (v := 1) hx hb d_Model_read_44 (by decide) ?_
        refine lv_icmp_ne hx hb d_Model_read_45 rfl (fun hc => ?_) (fun hc => ?_)
        · replace h := i_neg hc h
          refine lv_iload_n hx hb d_Model_read_60 rfl (lv_at hl 2 rfl) ?_
          refine lv_iconst (v := 4) hx hb d_Model_read_61 (by decide) ?_
          refine lv_idiv hx hb d_Model_read_62 (by decide) ?_
          refine lv_istore_n (lv' := [(3, .int (x2 / (4 : Int32))), (0, .ref a0), (1, .int x1), (2, .int x2)]) hx hb d_Model_read_63 rfl hl (Nat.le_of_ble_eq_true rfl) rfl (fun ls hl => ?_)
          refine lv_aload_n hx hb d_Model_read_64 rfl (lv_at hl 1 rfl) ?_
          refine lv_iload_n hx hb d_Model_read_65 rfl (lv_at hl 0 rfl) ?_
          obtain ⟨v66, e66, h⟩ := ob_el h
          refine gg_Vi (As := [.int (x2 / (4 : Int32))]) (rest := []) (ci := 5) (C := R_Model) (T := F_Model) (N := 23) ⟨hx, hb, hml, hown, hall⟩ (c_Model_ready l hT o0 e66) (cwV 1 hall (gV m_360 m_361 m_362 m_338 m_359) rfl rfl rfl (by decide +kernel) ⟨Nat.le_of_ble_eq_true rfl, Nat.le_of_ble_eq_true rfl⟩) hK hP hS o0.1 (wE_5 o0.2) rfl rfl hl.1 rfl (Nat.le_of_ble_eq_true rfl) d_Model_read_66 (fun H locs hP hS => ?_)
          refine lv_istore (lv' := [(4, .int v66), (3, .int (x2 / (4 : Int32))), (0, .ref a0), (1, .int x1), (2, .int x2)]) hx hb d_Model_read_69 hl (Nat.le_of_ble_eq_true rfl) rfl (fun ls hl => ?_)
          refine lv_iload hx hb d_Model_read_71 (lv_at hl 0 rfl) ?_
          refine lv_if_ge hx hb d_Model_read_73 rfl (fun hc => ?_) (fun hc => ?_)
          · replace h := i_pos hc h
            refine lv_aload_n hx hb d_Model_read_79 rfl (lv_at hl 2 rfl) ?_
            refine lv_iload_n hx hb d_Model_read_80 rfl (lv_at hl 3 rfl) ?_
            refine lv_iload_n hx hb d_Model_read_81 rfl (lv_at hl 1 rfl) ?_
            obtain ⟨v82, e82, h⟩ := ob_el h
            refine gg_Vi (As := [.int x1, .int (x2 / (4 : Int32))]) (rest := []) (ci := 5) (C := R_Model) (T := F_Model) (N := 23) ⟨hx, hb, hml, hown, hall⟩ (c_Model_lost l hT o0 e82) (cwV 2 hall (gV m_450 m_451 m_452 m_338 m_432) rfl rfl rfl (by decide +kernel) ⟨Nat.le_of_ble_eq_true rfl, Nat.le_of_ble_eq_true rfl⟩) hK hP hS o0.1 (wE_5 o0.2) rfl rfl hl.1 rfl (Nat.le_of_ble_eq_true rfl) d_Model_read_82 (fun H locs hP hS => ?_)
            refine lv_if_eq hx hb d_Model_read_85 rfl (fun hc => ?_) (fun hc => ?_)
            · replace h := i_pos hc h
              refine lv_iconst (v := 0) hx hb d_Model_read_98 (by decide) ?_
              refine lv_istore (lv' := [(5, .int (0 : Int32)), (4, .int v66), (3, .int (x2 / (4 : Int32))), (0, .ref a0), (1, .int x1), (2, .int x2)]) hx hb d_Model_read_99 hl (Nat.le_of_ble_eq_true rfl) rfl (fun ls hl => ?_)
              exact b_Model_read_101 cx 100 _ _ _ _ _ _ _ _ _ _ o0 h hP hS (lv_sub hl [3, 4, 5, 2, 1, 0] rfl)
            · replace h := i_neg hc h
              refine lv_aload_n hx hb d_Model_read_88 rfl (lv_at hl 2 rfl) ?_
              refine gg_get (C := R_Model) (T := F_Model) (N := 23) (ci := 5) hx hb hall i_Model hown hK hP o0.1 (wE_5 o0.2) rfl 17 (by decide) (hall _ m_449) (fun _ h9 => h9) rfl d_Model_read_89 ?_
              have o_89 : okA g 6 16 (R a0 17) := ty_Model_17 hT o0
              refine lv_iload_n hx hb d_Model_read_92 rfl (lv_at hl 3 rfl) ?_
              refine lv_iconst (v := 4) hx hb d_Model_read_93 (by decide) ?_
              obtain ⟨hi94, h⟩ := chk_el h
              refine gg_iast hx hb hT.1 hK hP hS o_89 hi94 d_Model_read_94 (fun I94 H locs e94 hP hS => ?_)
              replace h := ap_el e94 h
              refine lv_bipush (v := (-2)) hx hb d_Model_read_95 (by decide) ?_
              obtain ⟨rfl, rfl⟩ := rt_el h
              exact gg_iret hx hb hr hlk hK hP hS d_Model_read_97
          · replace h := i_neg hc h
            refine lv_bipush (v := (-3)) hx hb d_Model_read_76 (by decide) ?_
            obtain ⟨rfl, rfl⟩ := rt_el h
            exact gg_iret hx hb hr hlk hK hP hS d_Model_read_78
        · replace h := i_pos hc h
          refine lv_aload_n hx hb d_Model_read_48 rfl (lv_at hl 0 rfl) ?_
          refine gg_get (C := R_Model) (T := F_Model) (N := 23) (ci := 5) hx hb hall i_Model hown hK hP o0.1 (wE_5 o0.2) rfl 20 (by decide) (hall _ m_445) (fun _ h9 => h9) rfl d_Model_read_49 ?_
          have o_49 : okA g 6 128 (R a0 20) := ty_Model_20 hT o0
          refine lv_bipush (v := 8) hx hb d_Model_read_52 (by decide) ?_
          refine lv_iload_n hx hb d_Model_read_54 rfl (lv_at hl 1 rfl) ?_
          refine lv_imul hx hb d_Model_read_55 ?_
          refine lv_iload_n hx hb d_Model_read_56 rfl (lv_at hl 2 rfl) ?_
          refine lv_iadd hx hb d_Model_read_57 ?_
          obtain ⟨hi58, h⟩ := chk_el h
          refine gg_iald hx hb hK hP o_49 hi58 d_Model_read_58 ?_
          obtain ⟨rfl, rfl⟩ := rt_el h
          exact gg_iret hx hb hr hlk hK hP hS d_Model_read_59
      · replace h := i_neg hc h
        refine lv_bipush (v := (-2)) hx hb d_Model_read_31 (by decide) ?_
        obtain ⟨rfl, rfl⟩ := rt_el h
        exact gg_iret hx hb hr hlk hK hP hS d_Model_read_33
    · replace h := i_pos hc h
      exact b_Model_read_20 cx _ _ _ _ h hP hS (lv_sub hl [] rfl)
abbrev b_Model_write : ByteArray := prog_7_method_37_code
def y_Model_write : MethodName := ⟨"StampedStoreModel", "write", "(III)Z"⟩
def w_Model_write : List Cond := .code y_Model_write b_Model_write 4 (some .boolean) :: w_all
theorem d_Model_write_0 : decode b_Model_write 0 = .ok (.iload_n 1, 1) := by decide +kernel
theorem d_Model_write_1 : decode b_Model_write 1 = .ok (.aload_n 0, 1) := by decide +kernel
theorem d_Model_write_2 : decode b_Model_write 2 = .ok (.getfield 135, 3) := by decide +kernel
theorem d_Model_write_5 : decode b_Model_write 5 = .ok (.invokestatic 78, 3) := by decide +kernel
theorem d_Model_write_8 : decode b_Model_write 8 = .ok (.ifCond .eq 32, 3) := by decide +kernel
theorem d_Model_write_11 : decode b_Model_write 11 = .ok (.iload_n 2, 1) := by decide +kernel
theorem d_Model_write_12 : decode b_Model_write 12 = .ok (.bipush 8, 2) := by decide +kernel
theorem d_Model_write_14 : decode b_Model_write 14 = .ok (.invokestatic 78, 3) := by decide +kernel
theorem d_Model_write_17 : decode b_Model_write 17 = .ok (.ifCond .eq 23, 3) := by decide +kernel
theorem d_Model_write_20 : decode b_Model_write 20 = .ok (.aload_n 0, 1) := by decide +kernel
theorem d_Model_write_21 : decode b_Model_write 21 = .ok (.getfield 53, 3) := by decide +kernel
theorem d_Model_write_24 : decode b_Model_write 24 = .ok (.iload_n 1, 1) := by decide +kernel
theorem d_Model_write_25 : decode b_Model_write 25 = .ok (.iaload, 1) := by decide +kernel
theorem d_Model_write_26 : decode b_Model_write 26 = .ok (.ifCond .ne 14, 3) := by decide +kernel
theorem d_Model_write_29 : decode b_Model_write 29 = .ok (.iload_n 3, 1) := by decide +kernel
theorem d_Model_write_30 : decode b_Model_write 30 = .ok (.ifCond .lt 10, 3) := by decide +kernel
theorem d_Model_write_33 : decode b_Model_write 33 = .ok (.iload_n 3, 1) := by decide +kernel
theorem d_Model_write_34 : decode b_Model_write 34 = .ok (.sipush 999, 3) := by decide +kernel
theorem d_Model_write_37 : decode b_Model_write 37 = .ok (.if_icmp .le 5, 3) := by decide +kernel
theorem d_Model_write_40 : decode b_Model_write 40 = .ok (.iconst 0, 1) := by decide +kernel
theorem d_Model_write_41 : decode b_Model_write 41 = .ok (.ireturn, 1) := by decide +kernel
theorem d_Model_write_42 : decode b_Model_write 42 = .ok (.aload_n 0, 1) := by decide +kernel
theorem d_Model_write_43 : decode b_Model_write 43 = .ok (.getfield 59, 3) := by decide +kernel
theorem d_Model_write_46 : decode b_Model_write 46 = .ok (.iload_n 1, 1) := by decide +kernel
theorem d_Model_write_47 : decode b_Model_write 47 = .ok (.dup2, 1) := by decide +kernel
theorem d_Model_write_48 : decode b_Model_write 48 = .ok (.iaload, 1) := by decide +kernel
theorem d_Model_write_49 : decode b_Model_write 49 = .ok (.iconst 1, 1) := by decide +kernel
theorem d_Model_write_50 : decode b_Model_write 50 = .ok (.iload_n 2, 1) := by decide +kernel
theorem d_Model_write_51 : decode b_Model_write 51 = .ok (.ishl, 1) := by decide +kernel
theorem d_Model_write_52 : decode b_Model_write 52 = .ok (.ior, 1) := by decide +kernel
theorem d_Model_write_53 : decode b_Model_write 53 = .ok (.iastore, 1) := by decide +kernel
theorem d_Model_write_54 : decode b_Model_write 54 = .ok (.aload_n 0, 1) := by decide +kernel
theorem d_Model_write_55 : decode b_Model_write 55 = .ok (.getfield 62, 3) := by decide +kernel
theorem d_Model_write_58 : decode b_Model_write 58 = .ok (.bipush 8, 2) := by decide +kernel
theorem d_Model_write_60 : decode b_Model_write 60 = .ok (.iload_n 1, 1) := by decide +kernel
theorem d_Model_write_61 : decode b_Model_write 61 = .ok (.imul, 1) := by decide +kernel
theorem d_Model_write_62 : decode b_Model_write 62 = .ok (.iload_n 2, 1) := by decide +kernel
theorem d_Model_write_63 : decode b_Model_write 63 = .ok (.iadd, 1) := by decide +kernel
theorem d_Model_write_64 : decode b_Model_write 64 = .ok (.iload_n 3, 1) := by decide +kernel
theorem d_Model_write_65 : decode b_Model_write 65 = .ok (.iastore, 1) := by decide +kernel
theorem d_Model_write_66 : decode b_Model_write 66 = .ok (.iconst 1, 1) := by decide +kernel
theorem d_Model_write_67 : decode b_Model_write 67 = .ok (.ireturn, 1) := by decide +kernel
def B_Model_write_40 (R : Nat → Nat → Nat) (I : St) : Option (Int32 × St) := some ((0 : Int32), I)
set_option maxHeartbeats 4000000 in
set_option maxRecDepth 100000 in
theorem b_Model_write_40 {p : Program} {l : Launch} {e : Env} {s : State} {m : MethodId} {args : Array Value} {below : List Frame} {meth : Method} {c : Code} {g : Sg} {R : Nat → Nat → Nat} {J : St} {v : Int32} (cx : Cx p s m args meth c g R R_Model b_Model_write 4 (some .boolean)) : ∀ (I : St) (H : Heap) (locs : List Loc) (ls : Array Slot), B_Model_write_40 R I = some (v, J) → wW g R I H → va_S (· ∈ g.L) s.heap H locs → lv_has ls 4 [] → W p l e { frames := 1, cells := 0, slots := 0, locals := 21 } s m args below meth c H locs 0 0 (MQ below (Qi g R v J) args s 0 0 (· ∈ g.L)) (F0 m 40 ls []) := by
  have ⟨hx, hb, hml, hr, hlk, hown, hall, hT, hK⟩ := cx
  intro I H locs ls h hP hS hl
  unfold B_Model_write_40 at h
  refine lv_iconst (v := 0) hx hb d_Model_write_40 (by decide) ?_
  obtain ⟨rfl, rfl⟩ := rt_el h
  exact gg_zret hx hb hr hlk rfl hK hP hS d_Model_write_41
def F_Model_write (R : Nat → Nat → Nat) (a0 : Nat) (x1 : Int32) (x2 : Int32) (x3 : Int32) (I : St) : Option (Int32 × St) := (ob (F_Model_below R x1 (I a0 16) I) (fun v5 => (if v5 = 0 then B_Model_write_40 R I else (ob (F_Model_below R x2 (8 : Int32) I) (fun v14 => (if v14 = 0 then B_Model_write_40 R I else (chk x1 16 ((if (I (R a0 17) x1.toNatClampNeg) = 0 then (if x3 < 0 then B_Model_write_40 R I else (if x3 ≤ (999 : Int32) then (chk x1 16 ((chk x1 16 (ap (up2 I (R a0 19) x1.toNatClampNeg ((I (R a0 19) x1.toNatClampNeg) ||| ((1 : Int32) <<< (x2 &&& 31)))) (fun I53 => (chk (((8 : Int32) * x1) + x2) 128 (ap (up2 I53 (R a0 20) (((8 : Int32) * x1) + x2).toNatClampNeg x3) (fun I65 => some ((1 : Int32), I65))))))))) else B_Model_write_40 R I)) else B_Model_write_40 R I)))))))))
set_option maxHeartbeats 4000000 in
set_option maxRecDepth 100000 in
theorem c_Model_write (l : Launch) {g : Sg} {R : Nat → Nat → Nat} (hT : Ty g R) {a0 : Nat} (o0 : okA g 5 0 a0) {x1 : Int32} {x2 : Int32} {x3 : Int32} {I : St} {J : St} {v : Int32} (h : F_Model_write R a0 x1 x2 x3 I = some (v, J)) : Cti l g R y_Model_write w_Model_write 1 21 [.ref a0, .int x1, .int x2, .int x3] I v J := by
  unfold Cti
  refine Met.ofW (cc := b_Model_write) (maxL := 4) (ret := (some .boolean)) (by decide) rfl ?_
  intro p e s m args below meth c s₁ B hml hv
  obtain ⟨rfl, hP, hK⟩ := hv
  have hts := atoms_spec (ws := w_Model_write) B.pre
  have hall : ∀ w ∈ w_all, w.before _ s = true := fun w hw => hts w (List.mem_cons_of_mem _ hw)
  have hown : s.vm.findClass R_Model = some m.cls := findClass_of_methodNamed B.named
  have hx := B.exec
  have hb := B.bytes
  have hr := B.returns
  have hlk := B.notSynchronized
  have cx : Cx p s m _ meth c g R R_Model b_Model_write 4 (some .boolean) := ⟨hx, hb, hml, hr, hlk, hown, hall, hT, hK⟩
  have hl := lv_entry ([.ref a0, .int x1, .int x2, .int x3]) (n := 4) (Nat.le_of_ble_eq_true rfl)
  rw [lg_entry_eq]
  generalize (lg_sl ([.ref a0, .int x1, .int x2, .int x3]) ++ List.replicate (4 - (lg_sl ([.ref a0, .int x1, .int x2, .int x3])).length) Slot.unset).toArray = ls at hl ⊢
  have hl : lv_has ls 4 [(0, .ref a0), (1, .int x1), (2, .int x2), (3, .int x3)] := hl
  have hS : va_S (· ∈ g.L) s.heap s.heap [] := va_S.rf
  unfold F_Model_write at h
  refine lv_iload_n hx hb d_Model_write_0 rfl (lv_at hl 1 rfl) ?_
  refine lv_aload_n hx hb d_Model_write_1 rfl (lv_at hl 0 rfl) ?_
  refine gg_get (C := R_Model) (T := F_Model) (N := 23) (ci := 5) hx hb hall i_Model hown hK hP o0.1 (wE_5 o0.2) rfl 16 (by decide) (hall _ m_419) (fun _ h9 => h9) rfl d_Model_write_2 ?_
  obtain ⟨v5, e5, h⟩ := ob_el h
  refine gg_Si (As := [.int x1, .int (I a0 16)]) (rest := []) ⟨hx, hb, hml, hown, hall⟩ (c_Model_below l hT e5) (cwS 2 hall (gS m_336 m_337 m_338 m_329) rfl rfl rfl (by decide +kernel) ⟨Nat.le_of_ble_eq_true rfl, Nat.le_of_ble_eq_true rfl⟩) hK hP hS rfl hl.1 rfl (Nat.le_of_ble_eq_true rfl) d_Model_write_5 (fun H locs hP hS => ?_)
  refine lv_if_eq hx hb d_Model_write_8 rfl (fun hc => ?_) (fun hc => ?_)
  · replace h := i_pos hc h
    exact b_Model_write_40 cx _ _ _ _ h hP hS (lv_sub hl [] rfl)
  · replace h := i_neg hc h
    refine lv_iload_n hx hb d_Model_write_11 rfl (lv_at hl 2 rfl) ?_
    refine lv_bipush (v := 8) hx hb d_Model_write_12 (by decide) ?_
    obtain ⟨v14, e14, h⟩ := ob_el h
    refine gg_Si (As := [.int x2, .int (8 : Int32)]) (rest := []) ⟨hx, hb, hml, hown, hall⟩ (c_Model_below l hT e14) (cwS 2 hall (gS m_336 m_337 m_338 m_329) rfl rfl rfl (by decide +kernel) ⟨Nat.le_of_ble_eq_true rfl, Nat.le_of_ble_eq_true rfl⟩) hK hP hS rfl hl.1 rfl (Nat.le_of_ble_eq_true rfl) d_Model_write_14 (fun H locs hP hS => ?_)
    refine lv_if_eq hx hb d_Model_write_17 rfl (fun hc => ?_) (fun hc => ?_)
    · replace h := i_pos hc h
      exact b_Model_write_40 cx _ _ _ _ h hP hS (lv_sub hl [] rfl)
    · replace h := i_neg hc h
      refine lv_aload_n hx hb d_Model_write_20 rfl (lv_at hl 0 rfl) ?_
      refine gg_get (C := R_Model) (T := F_Model) (N := 23) (ci := 5) hx hb hall i_Model hown hK hP o0.1 (wE_5 o0.2) rfl 17 (by decide) (hall _ m_449) (fun _ h9 => h9) rfl d_Model_write_21 ?_
      have o_21 : okA g 6 16 (R a0 17) := ty_Model_17 hT o0
      refine lv_iload_n hx hb d_Model_write_24 rfl (lv_at hl 1 rfl) ?_
      obtain ⟨hi25, h⟩ := chk_el h
      refine gg_iald hx hb hK hP o_21 hi25 d_Model_write_25 ?_
      refine lv_if_ne hx hb d_Model_write_26 rfl (fun hc => ?_) (fun hc => ?_)
      · replace h := i_neg hc h
        exact b_Model_write_40 cx _ _ _ _ h hP hS (lv_sub hl [] rfl)
      · replace h := i_pos hc h
        refine lv_iload_n hx hb d_Model_write_29 rfl (lv_at hl 3 rfl) ?_
        refine lv_if_lt hx hb d_Model_write_30 rfl (fun hc => ?_) (fun hc => ?_)
        · replace h := i_pos hc h
          exact b_Model_write_40 cx _ _ _ _ h hP hS (lv_sub hl [] rfl)
        · replace h := i_neg hc h
          refine lv_iload_n hx hb d_Model_write_33 rfl (lv_at hl 3 rfl) ?_
          refine lv_sipush (v := 999) hx hb d_Model_write_34 (by decide) ?_
          refine lv_icmp_le hx hb d_Model_write_37 rfl (fun hc => ?_) (fun hc => ?_)
          · replace h := i_pos hc h
            refine lv_aload_n hx hb d_Model_write_42 rfl (lv_at hl 0 rfl) ?_
            refine gg_get (C := R_Model) (T := F_Model) (N := 23) (ci := 5) hx hb hall i_Model hown hK hP o0.1 (wE_5 o0.2) rfl 19 (by decide) (hall _ m_423) (fun _ h9 => h9) rfl d_Model_write_43 ?_
            have o_43 : okA g 6 16 (R a0 19) := ty_Model_19 hT o0
            refine lv_iload_n hx hb d_Model_write_46 rfl (lv_at hl 1 rfl) ?_
            refine lv_dup2_11 hx hb d_Model_write_47 rfl rfl ?_
            obtain ⟨hi48, h⟩ := chk_el h
            refine gg_iald hx hb hK hP o_43 hi48 d_Model_write_48 ?_
            refine lv_iconst (v := 1) hx hb d_Model_write_49 (by decide) ?_
            refine lv_iload_n hx hb d_Model_write_50 rfl (lv_at hl 2 rfl) ?_
            refine lv_ishl hx hb d_Model_write_51 ?_
            refine lv_ior hx hb d_Model_write_52 ?_
            obtain ⟨hi53, h⟩ := chk_el h
            refine gg_iast hx hb hT.1 hK hP hS o_43 hi53 d_Model_write_53 (fun I53 H locs e53 hP hS => ?_)
            replace h := ap_el e53 h
            refine lv_aload_n hx hb d_Model_write_54 rfl (lv_at hl 0 rfl) ?_
            refine gg_get (C := R_Model) (T := F_Model) (N := 23) (ci := 5) hx hb hall i_Model hown hK hP o0.1 (wE_5 o0.2) rfl 20 (by decide) (hall _ m_445) (fun _ h9 => h9) rfl d_Model_write_55 ?_
            have o_55 : okA g 6 128 (R a0 20) := ty_Model_20 hT o0
            refine lv_bipush (v := 8) hx hb d_Model_write_58 (by decide) ?_
            refine lv_iload_n hx hb d_Model_write_60 rfl (lv_at hl 1 rfl) ?_
            refine lv_imul hx hb d_Model_write_61 ?_
            refine lv_iload_n hx hb d_Model_write_62 rfl (lv_at hl 2 rfl) ?_
            refine lv_iadd hx hb d_Model_write_63 ?_
            refine lv_iload_n hx hb d_Model_write_64 rfl (lv_at hl 3 rfl) ?_
            obtain ⟨hi65, h⟩ := chk_el h
            refine gg_iast hx hb hT.1 hK hP hS o_55 hi65 d_Model_write_65 (fun I65 H locs e65 hP hS => ?_)
            replace h := ap_el e65 h
            refine lv_iconst (v := 1) hx hb d_Model_write_66 (by decide) ?_
            obtain ⟨rfl, rfl⟩ := rt_el h
            exact gg_zret hx hb hr hlk rfl hK hP hS d_Model_write_67
          · replace h := i_neg hc h
            exact b_Model_write_40 cx _ _ _ _ h hP hS (lv_sub hl [] rfl)
end
