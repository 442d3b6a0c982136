/-! Worlds that grow: constructors. A pool of cells at the addresses L, each with what f says. -/
section
theorem pD {A : Nat → Prop} {L : List Nat} (h : L.Nodup) (hA : ∀ q, q ∈ L → A q) (f : Nat → va_E) : va_D A (va_pl L f) := by
  have key : ∀ (i : Nat) (p : Nat × va_E), (va_pl L f)[i]? = some p → L[i]? = some p.1 := by
    intro i p hp
    simp only [va_pl, List.getElem?_map] at hp
    cases hi : L[i]? with
    | none => rw [hi] at hp; cases hp
    | some b => rw [hi] at hp; rw [← Option.some.inj hp]
  refine ⟨fun i j p q hi hj e => ?_, fun k q hk => hA _ (List.mem_of_getElem? (key k q hk))⟩
  have h1 := key i p hi
  have h2 := key j q hj
  rw [← e] at h2
  exact (List.getElem?_inj (List.getElem?_eq_some_iff.mp h1).1 h).mp (h1.trans h2.symm)
theorem pNot {A : Nat → Prop} {L : List Nat} {f : Nat → va_E} {q : Nat} {x : va_E} (h : va_D A (va_pl L f ++ [(q, x)])) : q ∉ L := by
  intro hq
  obtain ⟨k, hk⟩ := va_pl_get (X := []) (f := f) hq
  have hk : (va_pl L f)[k]? = some (q, f q) := hk
  have hl := (List.getElem?_eq_some_iff.mp hk).1
  have h1 : (va_pl L f ++ [(q, x)])[k]? = some (q, f q) := by rw [List.getElem?_append_left hl]; exact hk
  have h2 : (va_pl L f ++ [(q, x)])[(va_pl L f).length]? = some (q, x) := by rw [List.getElem?_append_right (Nat.le_refl _), Nat.sub_self]; rfl
  have := h.1 _ _ _ _ h1 h2 rfl
  omega
theorem pNd {L : List Nat} {q : Nat} (h : L.Nodup) (hq : q ∉ L) : (L ++ [q]).Nodup := List.nodup_append.mpr ⟨h, List.nodup_cons.mpr ⟨List.not_mem_nil, List.nodup_nil⟩, fun a ha b hb => by rcases List.mem_singleton.mp hb with rfl; exact fun e => hq (e ▸ ha)⟩
/-- f' is f but for q -/
def Off (f f' : Nat → va_E) (q : Nat) : Prop := ∀ b, b ≠ q → f' b = f b
/-- the tables' words for constructors too -/
def wK2 (g : Sg) (U : State) : Prop := wK g U ∧ va_Nw (.methodLinkNest "StampedStore$Node" 11 ⟨"StampedStore$Log", "<init>", "()V"⟩ "StampedStore") U ∧ va_AO "StampedStore$Node" U ∧ va_AO "StampedStore$Transaction" U
theorem wK2.mv {g : Sg} {s U : State} (h : wK2 g s) (hW : s.WarmedH U.vm) : wK2 g U := ⟨h.1.mv hW, va_Nw.warmM hW h.2.1, h.2.2.1.moved hW.alike, h.2.2.2.moved hW.alike⟩
theorem wK2.bl {g : Sg} {U : State} (gg : JFrame) (mk : MethodId) (a : Array Value) (h : wK2 g U) : wK2 g (U.calling gg mk a) := ⟨h.1.bl gg mk a, va_Nw.same rfl (u := U) (U := U.calling gg mk a) rfl h.2.1, va_AO.moved (u := U) (U := U.calling gg mk a) (Vm.Alike.refl U.vm) h.2.2.1, va_AO.moved (u := U) (U := U.calling gg mk a) (Vm.Alike.refl U.vm) h.2.2.2⟩
def Pn (g : Sg) (L : List Nat) (f : Nat → va_E) (sz : Nat) (av : List Value) : Array Value → State → Prop := va_Pc av (fun U => U.heap.size = sz ∧ va_P g.1 classes (va_pl L f) U.heap ∧ wK2 g U)
def Qn (g : Sg) (A : Nat → Prop) (post : List Nat × (Nat → va_E) → Prop) : Array Value → State → Outcome → State → Prop := va_Qv (fun u => post u ∧ ∀ z, z ∈ u.1 → A z) (fun u t => va_P g.1 classes (va_pl u.1 u.2) t.heap ∧ wK2 g t) A
def An (L : List Nat) (sz : Nat) : Nat → Prop := fun q => q ∈ L ∨ sz ≤ q
def Ctn (l : Launch) (g : Sg) (y : MethodName) (ws : List Cond) (fr lo mc ms : Nat) (av : List Value) (L : List Nat) (f : Nat → va_E) (post : List Nat × (Nat → va_E) → Prop) : Prop :=
  ∀ sz, Met l y ws { frames := fr, cells := mc, slots := ms, locals := lo } (Pn g L f sz av) (Qn g (An L sz) post) mc ms (An L sz)
theorem Pn_blind (g : Sg) (L : List Nat) (f : Nat → va_E) (sz : Nat) (av : List Value) : FrameBlind (Pn g L f sz av) := fun a U gg mk q => ⟨q.1, q.2.1, q.2.2.1, q.2.2.2.bl gg mk a⟩
end
section
variable {p : Program} {l : Launch} {e : Env} {Rm : Room} {s : State} {m : MethodId} {args : Array Value} {below : List Frame} {meth : Method} {c : Code} {H H0 : Heap} {locs : List Loc} {Q : State → Prop} {cells slots : Nat}
variable {cc : ByteArray} {pc : Nat} {ls : Array Slot} {rest : List Value} {g : Sg} {A : Nat → Prop} {L : List Nat} {f : Nat → va_E} {a : Nat} {own ref C : String} {T : u_T} {N ci index : Nat} {Ts : List Cond}
theorem pp_get (hexec : p.tables.exec = Jvm.exec) (hb : c.code = cc) (hts : ∀ w ∈ Ts, w.before args s = true) (hin : ∀ w ∈ u_ws C T N, w ∈ Ts) (hown : s.vm.findClass own = some m.cls) (hK : wK2 g s) (hP : va_P g.1 classes (va_pl L f) H) (ha : a ∈ L) {fs : List Value} (hf : f a = .inr (ci, fs)) (hc : classes[ci]? = some (C, T, N)) (k : Nat) (hk : k < N) (hlink : (Cond.fieldLink own index ref (T k).2.1 (T k).2.2.1).before args s = true) (hsame : ∀ x, s.fieldFound? (T k).1 (T k).2.1 (T k).2.2.1 = some x → s.fieldFound? ref (T k).2.1 (T k).2.2.1 = some x) {v : Value} (hv : fs[k]? = some v) (hdg : decode cc pc = .ok (.getfield index, 3))
    (kk : W p l e Rm s m args below meth c H locs cells slots Q (F0 m (pc + 3) ls (v :: rest))) : W p l e Rm s m args below meth c H locs cells slots Q (F0 m pc ls (.ref a :: rest)) := by
  obtain ⟨q, hq⟩ := va_pl_get (X := []) (f := f) ha
  have hq : (va_pl L f)[q]? = some (a, .inr (ci, fs)) := by rw [← hf]; exact hq
  exact va_get hexec hb hts hin hown hK.1.1 hP q hq hc k hk hlink hsame hv hdg kk
theorem pp_put (hexec : p.tables.exec = Jvm.exec) (hb : c.code = cc) (hts : ∀ w ∈ Ts, w.before args s = true) (hin : ∀ w ∈ u_ws C T N, w ∈ Ts) (ty0 : Nat → FieldType) (hty : ∀ k, k < N → parseFieldDescriptor (T k).2.2.1 = some (ty0 k)) (hnm : ∀ a, a < N → ∀ b, b < N → a ≠ b → (T a).2.1 ≠ (T b).2.1) (hown : s.vm.findClass own = some m.cls) (hN : L.Nodup) (hLA : ∀ q, q ∈ L → A q) (hK : wK2 g s) (hP : va_P g.1 classes (va_pl L f) H) (hS : va_S A H0 H locs) (ha : a ∈ L) {fs : List Value} (hf : f a = .inr (ci, fs)) (hc : classes[ci]? = some (C, T, N)) (k : Nat) (hk : k < N) (hlink : (Cond.fieldLink own index ref (T k).2.1 (T k).2.2.1).before args s = true) (hsame : ∀ x, s.fieldFound? (T k).1 (T k).2.1 (T k).2.2.1 = some x → s.fieldFound? ref (T k).2.1 (T k).2.2.1 = some x) (hfin : (T k).2.2.2 = false) {ty : FieldType} {v : Value} (hd : parseFieldDescriptor (T k).2.2.1 = some ty) (hn : narrow ty v = v) (hfit : fits ty v = true) (hl : k < fs.length) {fs' : List Value} (hset : fs.set k v = fs')
    (hdg : decode cc pc = .ok (.putfield index, 3)) (kk : ∀ (f' : Nat → va_E) (H1 : Heap) (locs1 : List Loc), Off f f' a → f' a = .inr (ci, fs') → va_P g.1 classes (va_pl L f') H1 → va_S A H0 H1 locs1 → W p l e Rm s m args below meth c H1 locs1 cells slots Q (F0 m (pc + 3) ls rest)) : W p l e Rm s m args below meth c H locs cells slots Q (F0 m pc ls (v :: .ref a :: rest)) := by
  obtain ⟨q, hq⟩ := va_pl_get (X := []) (f := f) ha
  have hq2 : (va_pl L f)[q]? = some (a, .inr (ci, fs)) := by rw [← hf]; exact hq
  have hD := pD hN hLA f
  refine va_put hexec hb hts hin ty0 hty hnm hown hK.1.1 hP hD hS q hq2 hc k hk hlink hsame hfin hd hn hfit hl hdg (fun H1 locs1 hP1 _ hS1 => kk (va_up f a (.inr (ci, fs'))) H1 locs1 (fun b hb => va_up_ne _ _ hb) (va_up_self _ _ _) ?_ hS1)
  have hs := va_pl_set (X := []) (e := .inr (ci, fs.set k v)) hD ha hq
  have hs : (va_pl L f).set q (a, .inr (ci, fs.set k v)) = va_pl L (va_up f a (.inr (ci, fs.set k v))) := hs
  rw [hs, hset] at hP1
  exact hP1
theorem pp_putF (hexec : p.tables.exec = Jvm.exec) (hb : c.code = cc) (hts : ∀ w ∈ Ts, w.before args s = true) (hin : ∀ w ∈ u_ws C T N, w ∈ Ts) (ty0 : Nat → FieldType) (hty : ∀ k, k < N → parseFieldDescriptor (T k).2.2.1 = some (ty0 k)) (hnm : ∀ a, a < N → ∀ b, b < N → a ≠ b → (T a).2.1 ≠ (T b).2.1) (hown : s.vm.findClass own = some m.cls) (hN : L.Nodup) (hLA : ∀ q, q ∈ L → A q) (hK : wK2 g s) (hP : va_P g.1 classes (va_pl L f) H) (hS : va_S A H0 H locs) (ha : a ∈ L) {fs : List Value} (hf : f a = .inr (ci, fs)) (hc : classes[ci]? = some (C, T, N)) (k : Nat) (hk : k < N) (hlink : (Cond.fieldLink own index ref (T k).2.1 (T k).2.2.1).before args s = true) (hsame : ∀ x, s.fieldFound? (T k).1 (T k).2.1 (T k).2.2.1 = some x → s.fieldFound? ref (T k).2.1 (T k).2.2.1 = some x) (hfin : (T k).2.2.2 = true) (hin2 : meth.name = "<init>") (hdecl : (T k).1 = own) {ty : FieldType} {v : Value} (hd : parseFieldDescriptor (T k).2.2.1 = some ty) (hn : narrow ty v = v) (hfit : fits ty v = true) (hl : k < fs.length) {fs' : List Value} (hset : fs.set k v = fs')
    (hdg : decode cc pc = .ok (.putfield index, 3)) (kk : ∀ (f' : Nat → va_E) (H1 : Heap) (locs1 : List Loc), Off f f' a → f' a = .inr (ci, fs') → va_P g.1 classes (va_pl L f') H1 → va_S A H0 H1 locs1 → W p l e Rm s m args below meth c H1 locs1 cells slots Q (F0 m (pc + 3) ls rest)) : W p l e Rm s m args below meth c H locs cells slots Q (F0 m pc ls (v :: .ref a :: rest)) := by
  obtain ⟨q, hq⟩ := va_pl_get (X := []) (f := f) ha
  have hq2 : (va_pl L f)[q]? = some (a, .inr (ci, fs)) := by rw [← hf]; exact hq
  have hD := pD hN hLA f
  refine va_putF hexec hb hts hin ty0 hty hnm hown hK.1.1 hP hD hS q hq2 hc k hk hlink hsame hfin hin2 hdecl hd hn hfit hl hdg (fun H1 locs1 hP1 _ hS1 => kk (va_up f a (.inr (ci, fs'))) H1 locs1 (fun b hb => va_up_ne _ _ hb) (va_up_self _ _ _) ?_ hS1)
  have hs := va_pl_set (X := []) (e := .inr (ci, fs.set k v)) hD ha hq
  have hs : (va_pl L f).set q (a, .inr (ci, fs.set k v)) = va_pl L (va_up f a (.inr (ci, fs.set k v))) := hs
  rw [hs, hset] at hP1
  exact hP1
theorem pp_new {c0 : Code} (hexec : p.tables.exec = Jvm.exec) (hb : c0.code = cc) (hts : ∀ w ∈ Ts, w.before args s = true) (hin : ∀ w ∈ u_ws C T N, w ∈ Ts) (ty : Nat → FieldType) (hty : ∀ k, k < N → parseFieldDescriptor (T k).2.2.1 = some (ty k)) (hown : s.vm.findClass own = some m.cls) (hcl : (Cond.classLink own index C).before args s = true) (hinst : (Cond.instantiable C N).before args s = true) (hini : (Cond.initialized C).before args s = true) (hN : L.Nodup) (hLA : ∀ q, q ∈ L → A q)
    (hK : wK2 g s) (hP : va_P g.1 classes (va_pl L f) H) (hS : va_S A H0 H locs) (hA : ∀ q, H0.size ≤ q → A q) (hc : classes[ci]? = some (C, T, N)) {fs : List Value} (hfs : ∀ j, j < N → defaultValue (ty j) = vp_V fs j) (hcells : cells + 1 ≤ Rm.cells) (hslots : slots + N ≤ Rm.slots) (hdg : decode cc pc = .ok (.new index, 3))
    (kk : ∀ (q : Nat) (f' : Nat → va_E) (H1 : Heap), q ∉ L → A q → Off f f' q → f' q = .inr (ci, fs) → va_P g.1 classes (va_pl (L ++ [q]) f') H1 → va_S A H0 H1 locs → W p l e Rm s m args below meth c0 H1 locs (cells + 1) (slots + N) Q (F0 m (pc + 3) ls (.ref q :: rest))) : W p l e Rm s m args below meth c0 H locs cells slots Q (F0 m pc ls rest) := by
  refine va_new hexec hb hts hin ty hty hown hcl hinst hini hK.1.1 hP (pD hN hLA f) hS hA hc hfs hcells hslots hdg (fun q H1 hP1 hD1 hS1 => ?_)
  have hq := pNot hD1
  rw [va_pl_push hq] at hP1
  exact kk q _ H1 hq (hD1.2 (va_pl L f).length _ (by rw [List.getElem?_append_right (Nat.le_refl _), Nat.sub_self]; rfl)) (fun b hb => va_up_ne _ _ hb) (va_up_self _ _ _) hP1 hS1
theorem pp_newI (hexec : p.tables.exec = Jvm.exec) (hb : c.code = cc) (harr : (Cond.arrayClass .int).before args s = true) (hN : L.Nodup) (hLA : ∀ q, q ∈ L → A q) (hK : wK2 g s) (hP : va_P g.1 classes (va_pl L f) H) (hS : va_S A H0 H locs) (hA : ∀ q, H0.size ≤ q → A q) {n : Int32} {N' : Nat} (hn : ¬ n < 0) (hn2 : n.toNatClampNeg = N') (hbytes : N' * componentBytes .int ≤ 536870912) (hcells : cells + 1 ≤ Rm.cells) (hslots : slots + N' ≤ Rm.slots) (hdg : decode cc pc = .ok (.newarray .int, 2))
    (kk : ∀ (q : Nat) (f' : Nat → va_E) (H1 : Heap), q ∉ L → A q → Off f f' q → f' q = .inl (g.cI, N', .inl (fun _ => 0)) → va_P g.1 classes (va_pl (L ++ [q]) f') H1 → va_S A H0 H1 locs → W p l e Rm s m args below meth c H1 locs (cells + 1) (slots + N') Q (F0 m (pc + 2) ls (.ref q :: rest))) : W p l e Rm s m args below meth c H locs cells slots Q (F0 m pc ls (.int n :: rest)) := by
  refine va_newa (atype := .int) (ty := .int) (a0 := (N', .inl (fun _ => 0))) hexec hb harr rfl hK.1.1 hP (pD hN hLA f) hS hA (fun cA => rfl) hn hn2 hbytes hcells hslots hdg (fun q cA H1 hK1 hP1 hD1 hS1 => ?_)
  have e1 := (hK1.2 4 (cA, .int) rfl).2
  have e2 := (hK1.2 0 (g.cI, .int) rfl).2
  have hc : cA = g.cI := Option.some.inj (e1.symm.trans e2)
  rw [hc] at hP1 hD1
  have hq := pNot hD1
  rw [va_pl_push hq] at hP1
  exact kk q _ H1 hq (hD1.2 (va_pl L f).length _ (by rw [List.getElem?_append_right (Nat.le_refl _), Nat.sub_self]; rfl)) (fun b hb => va_up_ne _ _ hb) (va_up_self _ _ _) hP1 hS1
theorem pp_newZ (hexec : p.tables.exec = Jvm.exec) (hb : c.code = cc) (harr : (Cond.arrayClass .boolean).before args s = true) (hN : L.Nodup) (hLA : ∀ q, q ∈ L → A q) (hK : wK2 g s) (hP : va_P g.1 classes (va_pl L f) H) (hS : va_S A H0 H locs) (hA : ∀ q, H0.size ≤ q → A q) {n : Int32} {N' : Nat} (hn : ¬ n < 0) (hn2 : n.toNatClampNeg = N') (hbytes : N' * componentBytes .boolean ≤ 536870912) (hcells : cells + 1 ≤ Rm.cells) (hslots : slots + N' ≤ Rm.slots) (hdg : decode cc pc = .ok (.newarray .boolean, 2))
    (kk : ∀ (q : Nat) (f' : Nat → va_E) (H1 : Heap), q ∉ L → A q → Off f f' q → f' q = .inl (g.cZ, N', .inl (fun _ => 0)) → va_P g.1 classes (va_pl (L ++ [q]) f') H1 → va_S A H0 H1 locs → W p l e Rm s m args below meth c H1 locs (cells + 1) (slots + N') Q (F0 m (pc + 2) ls (.ref q :: rest))) : W p l e Rm s m args below meth c H locs cells slots Q (F0 m pc ls (.int n :: rest)) := by
  refine va_newa (atype := .boolean) (ty := .boolean) (a0 := (N', .inl (fun _ => 0))) hexec hb harr rfl hK.1.1 hP (pD hN hLA f) hS hA (fun cA => rfl) hn hn2 hbytes hcells hslots hdg (fun q cA H1 hK1 hP1 hD1 hS1 => ?_)
  have e1 := (hK1.2 4 (cA, .boolean) rfl).2
  have e2 := (hK1.2 1 (g.cZ, .boolean) rfl).2
  have hc : cA = g.cZ := Option.some.inj (e1.symm.trans e2)
  rw [hc] at hP1 hD1
  have hq := pNot hD1
  rw [va_pl_push hq] at hP1
  exact kk q _ H1 hq (hD1.2 (va_pl L f).length _ (by rw [List.getElem?_append_right (Nat.le_refl _), Nat.sub_self]; rfl)) (fun b hb => va_up_ne _ _ hb) (va_up_self _ _ _) hP1 hS1
theorem pp_newN (hexec : p.tables.exec = Jvm.exec) (hb : c.code = cc) (hown : s.vm.findClass own = some m.cls) (hclink : (Cond.classLink own index "StampedStore$Node").before args s = true) (hN : L.Nodup) (hLA : ∀ q, q ∈ L → A q) (hK : wK2 g s) (hP : va_P g.1 classes (va_pl L f) H) (hS : va_S A H0 H locs) (hA : ∀ q, H0.size ≤ q → A q) {n : Int32} {N' : Nat} (hn : ¬ n < 0) (hn2 : n.toNatClampNeg = N') (hbytes : N' * 4 ≤ 536870912) (hcells : cells + 1 ≤ Rm.cells) (hslots : slots + N' ≤ Rm.slots) (hdg : decode cc pc = .ok (.anewarray index, 3))
    (kk : ∀ (q : Nat) (f' : Nat → va_E) (H1 : Heap), q ∉ L → A q → Off f f' q → f' q = .inl (g.cN, N', .inr (.inr (.inr (.inr (fun _ => none))))) → va_P g.1 classes (va_pl (L ++ [q]) f') H1 → va_S A H0 H1 locs → W p l e Rm s m args below meth c H1 locs (cells + 1) (slots + N') Q (F0 m (pc + 3) ls (.ref q :: rest))) : W p l e Rm s m args below meth c H locs cells slots Q (F0 m pc ls (.int n :: rest)) := by
  refine va_newq hexec hb hown hclink hK.2.2.1 hK.1.1 hP (pD hN hLA f) hS hA hn hn2 hbytes hcells hslots hdg (fun q cA H1 hK1 hP1 hD1 hS1 => ?_)
  obtain ⟨kA, comp, -, -, -, e1⟩ := (hK1.2 4 (cA, .object "StampedStore$Node") rfl).2
  obtain ⟨kA2, comp2, -, -, -, e2⟩ := (hK1.2 2 (g.cN, .object "StampedStore$Node") rfl).2
  have hc : cA = g.cN := Option.some.inj (e1.symm.trans e2)
  rw [hc] at hP1 hD1
  have hq := pNot hD1
  rw [va_pl_push hq] at hP1
  exact kk q _ H1 hq (hD1.2 (va_pl L f).length _ (by rw [List.getElem?_append_right (Nat.le_refl _), Nat.sub_self]; rfl)) (fun b hb => va_up_ne _ _ hb) (va_up_self _ _ _) hP1 hS1
theorem pp_newT (hexec : p.tables.exec = Jvm.exec) (hb : c.code = cc) (hown : s.vm.findClass own = some m.cls) (hclink : (Cond.classLink own index "StampedStore$Transaction").before args s = true) (hN : L.Nodup) (hLA : ∀ q, q ∈ L → A q) (hK : wK2 g s) (hP : va_P g.1 classes (va_pl L f) H) (hS : va_S A H0 H locs) (hA : ∀ q, H0.size ≤ q → A q) {n : Int32} {N' : Nat} (hn : ¬ n < 0) (hn2 : n.toNatClampNeg = N') (hbytes : N' * 4 ≤ 536870912) (hcells : cells + 1 ≤ Rm.cells) (hslots : slots + N' ≤ Rm.slots) (hdg : decode cc pc = .ok (.anewarray index, 3))
    (kk : ∀ (q : Nat) (f' : Nat → va_E) (H1 : Heap), q ∉ L → A q → Off f f' q → f' q = .inl (g.cT, N', .inr (.inr (.inr (.inr (fun _ => none))))) → va_P g.1 classes (va_pl (L ++ [q]) f') H1 → va_S A H0 H1 locs → W p l e Rm s m args below meth c H1 locs (cells + 1) (slots + N') Q (F0 m (pc + 3) ls (.ref q :: rest))) : W p l e Rm s m args below meth c H locs cells slots Q (F0 m pc ls (.int n :: rest)) := by
  refine va_newq hexec hb hown hclink hK.2.2.2 hK.1.1 hP (pD hN hLA f) hS hA hn hn2 hbytes hcells hslots hdg (fun q cA H1 hK1 hP1 hD1 hS1 => ?_)
  obtain ⟨kA, comp, -, -, -, e1⟩ := (hK1.2 4 (cA, .object "StampedStore$Transaction") rfl).2
  obtain ⟨kA2, comp2, -, -, -, e2⟩ := (hK1.2 3 (g.cT, .object "StampedStore$Transaction") rfl).2
  have hc : cA = g.cT := Option.some.inj (e1.symm.trans e2)
  rw [hc] at hP1 hD1
  have hq := pNot hD1
  rw [va_pl_push hq] at hP1
  exact kk q _ H1 hq (hD1.2 (va_pl L f).length _ (by rw [List.getElem?_append_right (Nat.le_refl _), Nat.sub_self]; rfl)) (fun b hb => va_up_ne _ _ hb) (va_up_self _ _ _) hP1 hS1
theorem pp_iast (hexec : p.tables.exec = Jvm.exec) (hb : c.code = cc) (hN : L.Nodup) (hLA : ∀ q, q ∈ L → A q) (hK : wK2 g s) (hP : va_P g.1 classes (va_pl L f) H) (hS : va_S A H0 H locs) (ha : a ∈ L) {n : Nat} {w : Nat → Int32} (hf : f a = .inl (g.cI, n, .inl w)) {i x : Int32} (hin : vp_in i n) (hdg : decode cc pc = .ok (.iastore, 1))
    (kk : ∀ (f' : Nat → va_E) (H1 : Heap) (locs1 : List Loc), Off f f' a → f' a = .inl (g.cI, n, .inl (upd w i.toNatClampNeg x)) → va_P g.1 classes (va_pl L f') H1 → va_S A H0 H1 locs1 → W p l e Rm s m args below meth c H1 locs1 cells slots Q (F0 m (pc + 1) ls rest)) : W p l e Rm s m args below meth c H locs cells slots Q (F0 m pc ls (.int x :: .int i :: .ref a :: rest)) := by
  obtain ⟨q, hq⟩ := va_pl_get (X := []) (f := f) ha
  have hq2 : (va_pl L f)[q]? = some (a, .inl (g.cI, n, .inl w)) := by rw [← hf]; exact hq
  have hD := pD hN hLA f
  refine va_iast hexec hb hK.1.1 hP hD hS q 0 hq2 rfl hin hdg (fun H1 locs1 hP1 _ hS1 => kk (va_up f a (.inl (g.cI, n, .inl (upd w i.toNatClampNeg x)))) H1 locs1 (fun b hb => va_up_ne _ _ hb) (va_up_self _ _ _) ?_ hS1)
  have hs := va_pl_set (X := []) (e := .inl (g.cI, n, .inl (upd w i.toNatClampNeg x))) hD ha hq
  have hs : (va_pl L f).set q (a, .inl (g.cI, n, .inl (upd w i.toNatClampNeg x))) = va_pl L (va_up f a (.inl (g.cI, n, .inl (upd w i.toNatClampNeg x)))) := hs
  rw [hs] at hP1
  exact hP1
theorem pp_alen (hexec : p.tables.exec = Jvm.exec) (hb : c.code = cc) (hK : wK2 g s) (hP : va_P g.1 classes (va_pl L f) H) (ha : a ∈ L) {n : Nat} {w : Nat → Int32} (hf : f a = .inl (g.cI, n, .inl w)) (hdg : decode cc pc = .ok (.arraylength, 1))
    (kk : W p l e Rm s m args below meth c H locs cells slots Q (F0 m (pc + 1) ls (.int (Int32.ofNat n) :: rest))) : W p l e Rm s m args below meth c H locs cells slots Q (F0 m pc ls (.ref a :: rest)) := by
  obtain ⟨q, hq⟩ := va_pl_get (X := []) (f := f) ha
  have hq2 : (va_pl L f)[q]? = some (a, .inl (g.cI, n, .inl w)) := by rw [← hf]; exact hq
  exact va_alen hexec hb hK.1.1 hP q 0 hq2 rfl rfl hdg kk
/-- an object into an array of references: t0, cA, r say of which -/
theorem pp_aast (hexec : p.tables.exec = Jvm.exec) (hb : c.code = cc) (hN : L.Nodup) (hLA : ∀ q, q ∈ L → A q) (hK : wK2 g s) (hP : va_P g.1 classes (va_pl L f) H) (hS : va_S A H0 H locs) (ha : a ∈ L) (t0 ci : Nat) {cA : ClassId} {r : vw_C} {n v : Nat} {vs : List Value} {w : Nat → Option Nat} (hf : f a = .inl (cA, n, .inr (.inr (.inr (.inr w))))) (ht : ([(g.cI, .int), (g.cZ, .boolean), (g.cN, .object "StampedStore$Node"), (g.cT, .object "StampedStore$Transaction")] : List (ClassId × FieldType))[t0]? = some (cA, .object r.1)) (hv : v ∈ L) (hfv : f v = .inr (ci, vs)) (hc : classes[ci]? = some r) {i : Int32} (hin : vp_in i n) (hdg : decode cc pc = .ok (.aastore, 1))
    (kk : ∀ (f' : Nat → va_E) (H1 : Heap) (locs1 : List Loc), Off f f' a → f' a = .inl (cA, n, .inr (.inr (.inr (.inr (va_up w i.toNatClampNeg (some v)))))) → va_P g.1 classes (va_pl L f') H1 → va_S A H0 H1 locs1 → W p l e Rm s m args below meth c H1 locs1 cells slots Q (F0 m (pc + 1) ls rest)) : W p l e Rm s m args below meth c H locs cells slots Q (F0 m pc ls (.ref v :: .int i :: .ref a :: rest)) := by
  obtain ⟨q, hq⟩ := va_pl_get (X := []) (f := f) ha
  have hq2 : (va_pl L f)[q]? = some (a, .inl (cA, n, .inr (.inr (.inr (.inr w))))) := by rw [← hf]; exact hq
  obtain ⟨qv, hqv⟩ := va_pl_get (X := []) (f := f) hv
  have hqv2 : (va_pl L f)[qv]? = some (v, .inr (ci, vs)) := by rw [← hfv]; exact hqv
  have hD := pD hN hLA f
  refine va_astq hexec hb hK.1.1 hP hD hS q t0 qv ci hq2 ht hqv2 hc hin hdg (fun H1 locs1 hP1 _ hS1 => kk (va_up f a (.inl (cA, n, .inr (.inr (.inr (.inr (va_up w i.toNatClampNeg (some v)))))))) H1 locs1 (fun b hb => va_up_ne _ _ hb) (va_up_self _ _ _) ?_ hS1)
  have hs := va_pl_set (X := []) (e := .inl (cA, n, .inr (.inr (.inr (.inr (va_up w i.toNatClampNeg (some v))))))) hD ha hq
  have hs : (va_pl L f).set q (a, .inl (cA, n, .inr (.inr (.inr (.inr (va_up w i.toNatClampNeg (some v))))))) = va_pl L (va_up f a (.inl (cA, n, .inr (.inr (.inr (.inr (va_up w i.toNatClampNeg (some v)))))))) := hs
  rw [hs] at hP1
  exact hP1
variable {y : MethodName} {bytes : ByteArray} {maxL nL n fr lo mc ms : Nat} {ret : Option FieldType} {ws : List Cond} {b : Nat} {As st0 : List Value} {post : List Nat × (Nat → va_E) → Prop} {host : String}
theorem pp_vret (hexec : p.tables.exec = Jvm.exec) (hb : c.code = cc) (hr : meth.sig.returnType = none) (hlk : meth.locks = false) (hK : wK2 g s) (hP : va_P g.1 classes (va_pl L f) H) (hS : va_S A s.heap H locs) (hLA : ∀ z, z ∈ L → A z) (hpost : post (L, f)) (hdg : decode cc pc = .ok (.return_, 1)) : W p l e Rm s m args below meth c H locs cells slots (MQ below (Qn g A post) args s cells slots A) (F0 m pc ls []) :=
  W.vret hexec hb hr (fun t ht hW => ⟨⟨(L, f), rfl, ⟨hpost, hLA⟩, by rw [ht]; exact hP, hK.mv hW⟩, hS.F ht⟩) hS.2.2 hdg hlk
/-- a constructor is called -/
theorem pp_init (S : CallFix p m c cc nL s args Ts own) (hM : Ctn l g y ws fr lo mc ms (.ref b :: As) L f post) (cw : CallB Rm s args own index y bytes maxL none ws { frames := fr, cells := mc, slots := ms, locals := lo } mc ms n ∧ y.name = "<init>" ∧ (Cond.instanceMethod y).before args s = true) (hK : wK2 g s) (hP : va_P g.1 classes (va_pl L f) H) (hS : va_S A H0 H locs) (hA : ∀ q, H0.size ≤ q → A q) (hLA : ∀ q, q ∈ L → A q) (hn : As.length = n) (hsz : ls.size = nL) (hst : st0 = As.reverse ++ .ref b :: rest) (hrm : (rest.map fun v => v.category).sum ≤ 8) (hdg : decode cc pc = .ok (.invokespecial index, 3)) (hcs : cells + mc ≤ Rm.cells ∧ slots + ms ≤ Rm.slots)
    (kk : ∀ (L' : List Nat) (f' : Nat → va_E) (H1 : Heap) (locs1 : List Loc), post (L', f') → (∀ z, z ∈ L' → A z) → va_P g.1 classes (va_pl L' f') H1 → va_S A H0 H1 locs1 → W p l e Rm s m args below meth c H1 locs1 (cells + mc) (slots + ms) Q (F0 m (pc + 3) ls rest)) : W p l e Rm s m args below meth c H locs cells slots Q (F0 m pc ls st0) := by
  have hz := hS.1
  have hAA : ∀ q, An L H.size q → A q := fun q h => h.elim (hLA q) (fun h => hA q (Nat.le_trans hz h))
  refine va_callv (va_runI S (hM H.size) cw ⟨Pn_blind g L f _ _, fun U hU hW => ⟨rfl, by rw [hU], by rw [hU]; exact hP, hK.mv hW⟩⟩ rfl hn hsz hst (lv_room hrm) hdg hcs) hS (fun q _ h => hAA q h) hAA (fun u t H1 locs1 ht hvm hpost hB hz1 hk1 hS1 => ?_)
  exact kk u.1 u.2 H1 locs1 hpost.1 (fun z hz => hAA z (hpost.2 z hz)) (by rw [← ht]; exact hB.1) hS1
theorem pp_initN (S : CallFix p m c cc nL s args Ts own) (hM : Ctn l g y ws fr lo mc ms (.ref b :: As) L f post) (cw : va_CN Rm s args own index y host bytes maxL none ws { frames := fr, cells := mc, slots := ms, locals := lo } mc ms n ∧ y.name = "<init>" ∧ (Cond.instanceMethod y).before args s = true) (hK : wK2 g s) (hP : va_P g.1 classes (va_pl L f) H) (hS : va_S A H0 H locs) (hA : ∀ q, H0.size ≤ q → A q) (hLA : ∀ q, q ∈ L → A q) (hn : As.length = n) (hsz : ls.size = nL) (hst : st0 = As.reverse ++ .ref b :: rest) (hrm : (rest.map fun v => v.category).sum ≤ 8) (hdg : decode cc pc = .ok (.invokespecial index, 3)) (hcs : cells + mc ≤ Rm.cells ∧ slots + ms ≤ Rm.slots)
    (kk : ∀ (L' : List Nat) (f' : Nat → va_E) (H1 : Heap) (locs1 : List Loc), post (L', f') → (∀ z, z ∈ L' → A z) → va_P g.1 classes (va_pl L' f') H1 → va_S A H0 H1 locs1 → W p l e Rm s m args below meth c H1 locs1 (cells + mc) (slots + ms) Q (F0 m (pc + 3) ls rest)) : W p l e Rm s m args below meth c H locs cells slots Q (F0 m pc ls st0) := by
  have hz := hS.1
  have hAA : ∀ q, An L H.size q → A q := fun q h => h.elim (hLA q) (fun h => hA q (Nat.le_trans hz h))
  refine va_callv (va_runIN S (hM H.size) cw ⟨Pn_blind g L f _ _, fun U hU hW => ⟨rfl, by rw [hU], by rw [hU]; exact hP, hK.mv hW⟩⟩ rfl hn hsz hst (lv_room hrm) hdg hcs) hS (fun q _ h => hAA q h) hAA (fun u t H1 locs1 ht hvm hpost hB hz1 hk1 hS1 => ?_)
  exact kk u.1 u.2 H1 locs1 hpost.1 (fun z hz => hAA z (hpost.2 z hz)) (by rw [← ht]; exact hB.1) hS1
theorem pp_stat (S : CallFix p m c cc nL s args Ts own) (hM : Ctn l g y ws fr lo mc ms As L f post) (cw : CallB Rm s args own index y bytes maxL ret ws { frames := fr, cells := mc, slots := ms, locals := lo } mc ms n ∧ (Cond.static y).before args s = true) (hK : wK2 g s) (hP : va_P g.1 classes (va_pl L f) H) (hS : va_S A H0 H locs) (hA : ∀ q, H0.size ≤ q → A q) (hLA : ∀ q, q ∈ L → A q) (hn : As.length = n) (hsz : ls.size = nL) (hst : st0 = As.reverse ++ rest) (hrm : (rest.map fun v => v.category).sum ≤ 8) (hdg : decode cc pc = .ok (.invokestatic index, 3)) (hcs : cells + mc ≤ Rm.cells ∧ slots + ms ≤ Rm.slots)
    (kk : ∀ (L' : List Nat) (f' : Nat → va_E) (H1 : Heap) (locs1 : List Loc), post (L', f') → (∀ z, z ∈ L' → A z) → va_P g.1 classes (va_pl L' f') H1 → va_S A H0 H1 locs1 → W p l e Rm s m args below meth c H1 locs1 (cells + mc) (slots + ms) Q (F0 m (pc + 3) ls rest)) : W p l e Rm s m args below meth c H locs cells slots Q (F0 m pc ls st0) := by
  have hz := hS.1
  have hAA : ∀ q, An L H.size q → A q := fun q h => h.elim (hLA q) (fun h => hA q (Nat.le_trans hz h))
  refine va_callv (va_runS S (hM H.size) cw ⟨Pn_blind g L f _ _, fun U hU hW => ⟨rfl, by rw [hU], by rw [hU]; exact hP, hK.mv hW⟩⟩ rfl hn hsz hst (lv_room hrm) hdg hcs) hS (fun q _ h => hAA q h) hAA (fun u t H1 locs1 ht hvm hpost hB hz1 hk1 hS1 => ?_)
  exact kk u.1 u.2 H1 locs1 hpost.1 (fun z hz => hAA z (hpost.2 z hz)) (by rw [← ht]; exact hB.1) hS1
end
