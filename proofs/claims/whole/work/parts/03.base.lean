def R_Clock : String := "StampedStore$Clock"
def F_Clock : u_T := fun k => match k with
  | 0 => ("StampedStore$Clock", "eps", "I", true)
  | _ => ("StampedStore$Clock", "time", "I", false)
def t_Clock : Nat → FieldType := fun k => match k with
  | 0 => .int
  | _ => .int
theorem n_Clock : ∀ a, a < 2 → ∀ b, b < 2 → a ≠ b → (F_Clock a).2.1 ≠ (F_Clock b).2.1 := by decide +kernel
theorem t_Clock_ok : ∀ k, k < 2 → parseFieldDescriptor (F_Clock k).2.2.1 = some (t_Clock k) := by decide +kernel
theorem i_Clock : ∀ w ∈ u_ws R_Clock F_Clock 2, w ∈ w_all := (is_cons m_494 (is_cons m_495 is_nil))
def R_Log : String := "StampedStore$Log"
def F_Log : u_T := fun k => match k with
  | 0 => ("StampedStore$Log", "epochs", "[I", true)
  | 1 => ("StampedStore$Log", "stamps", "[I", true)
  | 2 => ("StampedStore$Log", "kinds", "[I", true)
  | 3 => ("StampedStore$Log", "owners", "[I", true)
  | 4 => ("StampedStore$Log", "outcomes", "[I", true)
  | 5 => ("StampedStore$Log", "size", "I", false)
  | _ => ("StampedStore$Log", "knownSize", "I", false)
def t_Log : Nat → FieldType := fun k => match k with
  | 0 => .array .int
  | 1 => .array .int
  | 2 => .array .int
  | 3 => .array .int
  | 4 => .array .int
  | 5 => .int
  | _ => .int
theorem n_Log : ∀ a, a < 7 → ∀ b, b < 7 → a ≠ b → (F_Log a).2.1 ≠ (F_Log b).2.1 := by decide +kernel
theorem t_Log_ok : ∀ k, k < 7 → parseFieldDescriptor (F_Log k).2.2.1 = some (t_Log k) := by decide +kernel
theorem i_Log : ∀ w ∈ u_ws R_Log F_Log 7, w ∈ w_all := (is_cons m_496 (is_cons m_497 (is_cons m_498 (is_cons m_499 (is_cons m_500 (is_cons m_501 (is_cons m_502 is_nil)))))))
def R_Node : String := "StampedStore$Node"
def F_Node : u_T := fun k => match k with
  | 0 => ("StampedStore$Node", "number", "I", true)
  | 1 => ("StampedStore$Node", "clock", "LStampedStore$Clock;", true)
  | 2 => ("StampedStore$Node", "log", "LStampedStore$Log;", true)
  | 3 => ("StampedStore$Node", "up", "Z", false)
  | 4 => ("StampedStore$Node", "leads", "Z", false)
  | 5 => ("StampedStore$Node", "skew", "I", false)
  | 6 => ("StampedStore$Node", "epoch", "I", false)
  | 7 => ("StampedStore$Node", "leaseEnd", "I", false)
  | 8 => ("StampedStore$Node", "promisedNode", "I", false)
  | _ => ("StampedStore$Node", "promisedTime", "I", false)
def t_Node : Nat → FieldType := fun k => match k with
  | 0 => .int
  | 1 => .object "StampedStore$Clock"
  | 2 => .object "StampedStore$Log"
  | 3 => .boolean
  | 4 => .boolean
  | 5 => .int
  | 6 => .int
  | 7 => .int
  | 8 => .int
  | _ => .int
theorem n_Node : ∀ a, a < 10 → ∀ b, b < 10 → a ≠ b → (F_Node a).2.1 ≠ (F_Node b).2.1 := by decide +kernel
theorem t_Node_ok : ∀ k, k < 10 → parseFieldDescriptor (F_Node k).2.2.1 = some (t_Node k) := by decide +kernel
theorem i_Node : ∀ w ∈ u_ws R_Node F_Node 10, w ∈ w_all := (is_cons m_503 (is_cons m_504 (is_cons m_505 (is_cons m_506 (is_cons m_507 (is_cons m_508 (is_cons m_509 (is_cons m_510 (is_cons m_511 (is_cons m_512 is_nil))))))))))
def R_Txn : String := "StampedStore$Transaction"
def F_Txn : u_T := fun k => match k with
  | 0 => ("StampedStore$Transaction", "reads", "[Z", true)
  | 1 => ("StampedStore$Transaction", "values", "[I", true)
  | 2 => ("StampedStore$Transaction", "readEpochs", "[I", true)
  | 3 => ("StampedStore$Transaction", "state", "I", false)
  | _ => ("StampedStore$Transaction", "stamp", "I", false)
def t_Txn : Nat → FieldType := fun k => match k with
  | 0 => .array .boolean
  | 1 => .array .int
  | 2 => .array .int
  | 3 => .int
  | _ => .int
theorem n_Txn : ∀ a, a < 5 → ∀ b, b < 5 → a ≠ b → (F_Txn a).2.1 ≠ (F_Txn b).2.1 := by decide +kernel
theorem t_Txn_ok : ∀ k, k < 5 → parseFieldDescriptor (F_Txn k).2.2.1 = some (t_Txn k) := by decide +kernel
theorem i_Txn : ∀ w ∈ u_ws R_Txn F_Txn 5, w ∈ w_all := (is_cons m_513 (is_cons m_514 (is_cons m_515 (is_cons m_516 (is_cons m_517 is_nil)))))
def R_Store : String := "StampedStore"
def F_Store : u_T := fun k => match k with
  | 0 => ("StampedStore", "clock", "LStampedStore$Clock;", true)
  | 1 => ("StampedStore", "nodes", "[LStampedStore$Node;", true)
  | 2 => ("StampedStore", "transactions", "[LStampedStore$Transaction;", true)
  | _ => ("StampedStore", "begun", "I", false)
def t_Store : Nat → FieldType := fun k => match k with
  | 0 => .object "StampedStore$Clock"
  | 1 => .array (.object "StampedStore$Node")
  | 2 => .array (.object "StampedStore$Transaction")
  | _ => .int
theorem n_Store : ∀ a, a < 4 → ∀ b, b < 4 → a ≠ b → (F_Store a).2.1 ≠ (F_Store b).2.1 := by decide +kernel
theorem t_Store_ok : ∀ k, k < 4 → parseFieldDescriptor (F_Store k).2.2.1 = some (t_Store k) := by decide +kernel
theorem i_Store : ∀ w ∈ u_ws R_Store F_Store 4, w ∈ w_all := (is_cons m_518 (is_cons m_519 (is_cons m_520 (is_cons m_521 is_nil))))
def R_Model : String := "StampedStoreModel"
def F_Model : u_T := fun k => match k with
  | 0 => ("StampedStoreModel", "eps", "I", true)
  | 1 => ("StampedStoreModel", "time", "I", false)
  | 2 => ("StampedStoreModel", "off", "[Z", true)
  | 3 => ("StampedStoreModel", "skew", "[I", true)
  | 4 => ("StampedStoreModel", "epoch", "[I", true)
  | 5 => ("StampedStoreModel", "promised", "[I", true)
  | 6 => ("StampedStoreModel", "promisedTo", "[I", true)
  | 7 => ("StampedStoreModel", "leads", "[Z", true)
  | 8 => ("StampedStoreModel", "leaseEnd", "[I", true)
  | 9 => ("StampedStoreModel", "length", "[I", true)
  | 10 => ("StampedStoreModel", "known", "[I", true)
  | 11 => ("StampedStoreModel", "age", "[I", true)
  | 12 => ("StampedStoreModel", "stamps", "[I", true)
  | 13 => ("StampedStoreModel", "kind", "[I", true)
  | 14 => ("StampedStoreModel", "whose", "[I", true)
  | 15 => ("StampedStoreModel", "inner", "[I", true)
  | 16 => ("StampedStoreModel", "begun", "I", false)
  | 17 => ("StampedStoreModel", "state", "[I", true)
  | 18 => ("StampedStoreModel", "reads", "[I", true)
  | 19 => ("StampedStoreModel", "writes", "[I", true)
  | 20 => ("StampedStoreModel", "value", "[I", true)
  | 21 => ("StampedStoreModel", "readEpoch", "[I", true)
  | _ => ("StampedStoreModel", "done", "[I", true)
def t_Model : Nat → FieldType := fun k => match k with
  | 0 => .int
  | 1 => .int
  | 2 => .array .boolean
  | 3 => .array .int
  | 4 => .array .int
  | 5 => .array .int
  | 6 => .array .int
  | 7 => .array .boolean
  | 8 => .array .int
  | 9 => .array .int
  | 10 => .array .int
  | 11 => .array .int
  | 12 => .array .int
  | 13 => .array .int
  | 14 => .array .int
  | 15 => .array .int
  | 16 => .int
  | 17 => .array .int
  | 18 => .array .int
  | 19 => .array .int
  | 20 => .array .int
  | 21 => .array .int
  | _ => .array .int
theorem n_Model : ∀ a, a < 23 → ∀ b, b < 23 → a ≠ b → (F_Model a).2.1 ≠ (F_Model b).2.1 := by decide +kernel
theorem t_Model_ok : ∀ k, k < 23 → parseFieldDescriptor (F_Model k).2.2.1 = some (t_Model k) := by decide +kernel
theorem i_Model : ∀ w ∈ u_ws R_Model F_Model 23, w ∈ w_all := (is_cons m_522 (is_cons m_523 (is_cons m_524 (is_cons m_525 (is_cons m_526 (is_cons m_527 (is_cons m_528 (is_cons m_529 (is_cons m_530 (is_cons m_531 (is_cons m_532 (is_cons m_533 (is_cons m_534 (is_cons m_535 (is_cons m_536 (is_cons m_537 (is_cons m_538 (is_cons m_539 (is_cons m_540 (is_cons m_541 (is_cons m_542 (is_cons m_543 (is_cons m_544 is_nil)))))))))))))))))))))))
def R_Math : String := "java/lang/Math"
abbrev classes : List vw_C := [(R_Clock, F_Clock, 2), (R_Log, F_Log, 7), (R_Node, F_Node, 10), (R_Txn, F_Txn, 5), (R_Store, F_Store, 4), (R_Model, F_Model, 23)]
/-! The world of the proof: every cell that the class and the reference made, as one pool; wrappers of the kit's rows over it. -/
section
abbrev St : Type := Nat → Nat → Int32
def up2 (I : St) (a k : Nat) (v : Int32) : St := va_up I a (upd (I a) k v)
theorem up2_self (I : St) (a k : Nat) (v : Int32) : up2 I a k v a = upd (I a) k v := va_up_self _ _ _
theorem up2_ne (I : St) {a b : Nat} (k : Nat) (v : Int32) (h : b ≠ a) : up2 I a k v b = I b := va_up_ne _ _ h
/-- the classes' places, the addresses, their kinds and lengths, the array classes (int, boolean, nodes, transactions) -/
abbrev Sg : Type := va_G × List Nat × (Nat → Nat × Nat) × ClassId × ClassId × ClassId × ClassId
abbrev Sg.L (g : Sg) : List Nat := g.2.1
abbrev Sg.kd (g : Sg) : Nat → Nat × Nat := g.2.2.1
abbrev Sg.cI (g : Sg) : ClassId := g.2.2.2.1
abbrev Sg.cZ (g : Sg) : ClassId := g.2.2.2.2.1
abbrev Sg.cN (g : Sg) : ClassId := g.2.2.2.2.2.1
abbrev Sg.cT (g : Sg) : ClassId := g.2.2.2.2.2.2
def wF (g : Sg) (r : Nat → Nat) (f : Nat → Int32) (k : Nat × Nat) : va_E := match k.1 with
  | 0 => .inr (0, [.int (f 0), .int (f 1)])
  | 1 => .inr (1, [.ref (r 0), .ref (r 1), .ref (r 2), .ref (r 3), .ref (r 4), .int (f 5), .int (f 6)])
  | 2 => .inr (2, [.int (f 0), .ref (r 1), .ref (r 2), .int (f 3), .int (f 4), .int (f 5), .int (f 6), .int (f 7), .int (f 8), .int (f 9)])
  | 3 => .inr (3, [.ref (r 0), .ref (r 1), .ref (r 2), .int (f 3), .int (f 4)])
  | 4 => .inr (4, [.ref (r 0), .ref (r 1), .ref (r 2), .int (f 3)])
  | 5 => .inr (5, [.int (f 0), .int (f 1), .ref (r 2), .ref (r 3), .ref (r 4), .ref (r 5), .ref (r 6), .ref (r 7), .ref (r 8), .ref (r 9), .ref (r 10), .ref (r 11), .ref (r 12), .ref (r 13), .ref (r 14), .ref (r 15), .int (f 16), .ref (r 17), .ref (r 18), .ref (r 19), .ref (r 20), .ref (r 21), .ref (r 22)])
  | 6 => .inl (g.cI, k.2, .inl f)
  | 7 => .inl (g.cZ, k.2, .inl f)
  | 8 => .inl (g.cN, k.2, .inr (.inr (.inr (.inr (fun j => some (r j))))))
  | _ => .inl (g.cT, k.2, .inr (.inr (.inr (.inr (fun j => some (r j))))))
def wE (g : Sg) (R : Nat → Nat → Nat) (I : St) (a : Nat) : va_E := wF g (R a) (I a) (g.kd a)
def wW (g : Sg) (R : Nat → Nat → Nat) (I : St) (H : Heap) : Prop := va_P g.1 classes (va_pl g.L (wE g R I)) H
def wK (g : Sg) (U : State) : Prop := va_K g.1 classes [(g.cI, .int), (g.cZ, .boolean), (g.cN, .object "StampedStore$Node"), (g.cT, .object "StampedStore$Transaction")] U ∧ va_Nw (.methodLinkNest "StampedStore$Transaction" 45 ⟨"StampedStore", "groupOfKey", "(I)I"⟩ "StampedStore") U
theorem wK.mv {g : Sg} {s U : State} (h : wK g s) (hW : s.WarmedH U.vm) : wK g U := ⟨va_K.moved hW.alike h.1, va_Nw.warmM hW h.2⟩
theorem wK.bl {g : Sg} {U : State} (gg : JFrame) (mk : MethodId) (a : Array Value) (h : wK g U) : wK g (U.calling gg mk a) := ⟨va_K.moved (u := U) (U := U.calling gg mk a) (Vm.Alike.refl U.vm) h.1, va_Nw.same rfl (u := U) (U := U.calling gg mk a) rfl h.2⟩
def okA (g : Sg) (c n a : Nat) : Prop := a ∈ g.L ∧ g.kd a = (c, n)
def Ty (g : Sg) (R : Nat → Nat → Nat) : Prop := g.L.Nodup
  ∧ (∀ a, okA g 1 0 a → okA g 6 60 (R a 0) ∧ okA g 6 60 (R a 1) ∧ okA g 6 60 (R a 2) ∧ okA g 6 60 (R a 3) ∧ okA g 6 60 (R a 4))
  ∧ (∀ a, okA g 2 0 a → okA g 0 0 (R a 1) ∧ okA g 1 0 (R a 2))
  ∧ (∀ a, okA g 3 0 a → okA g 7 8 (R a 0) ∧ okA g 6 8 (R a 1) ∧ okA g 6 2 (R a 2))
  ∧ (∀ a, okA g 4 0 a → okA g 0 0 (R a 0) ∧ okA g 8 6 (R a 1) ∧ okA g 9 16 (R a 2))
  ∧ (∀ a, okA g 5 0 a → okA g 7 6 (R a 2) ∧ okA g 6 6 (R a 3) ∧ okA g 6 6 (R a 4) ∧ okA g 6 6 (R a 5) ∧ okA g 6 6 (R a 6) ∧ okA g 7 6 (R a 7) ∧ okA g 6 6 (R a 8) ∧ okA g 6 6 (R a 9) ∧ okA g 6 6 (R a 10) ∧ okA g 6 360 (R a 11) ∧ okA g 6 360 (R a 12) ∧ okA g 6 360 (R a 13) ∧ okA g 6 360 (R a 14) ∧ okA g 6 360 (R a 15) ∧ okA g 6 16 (R a 17) ∧ okA g 6 16 (R a 18) ∧ okA g 6 16 (R a 19) ∧ okA g 6 128 (R a 20) ∧ okA g 6 32 (R a 21) ∧ okA g 6 16 (R a 22))
  ∧ (∀ a, okA g 8 6 a → ∀ j, okA g 2 0 (R a j))
  ∧ (∀ a, okA g 9 16 a → ∀ j, okA g 3 0 (R a j))
theorem ty_Log_0 {g : Sg} {R : Nat → Nat → Nat} (hT : Ty g R) {a : Nat} (h : okA g 1 0 a) : okA g 6 60 (R a 0) := (hT.2.1 a h).1
theorem ty_Log_1 {g : Sg} {R : Nat → Nat → Nat} (hT : Ty g R) {a : Nat} (h : okA g 1 0 a) : okA g 6 60 (R a 1) := (hT.2.1 a h).2.1
theorem ty_Log_2 {g : Sg} {R : Nat → Nat → Nat} (hT : Ty g R) {a : Nat} (h : okA g 1 0 a) : okA g 6 60 (R a 2) := (hT.2.1 a h).2.2.1
theorem ty_Log_3 {g : Sg} {R : Nat → Nat → Nat} (hT : Ty g R) {a : Nat} (h : okA g 1 0 a) : okA g 6 60 (R a 3) := (hT.2.1 a h).2.2.2.1
theorem ty_Log_4 {g : Sg} {R : Nat → Nat → Nat} (hT : Ty g R) {a : Nat} (h : okA g 1 0 a) : okA g 6 60 (R a 4) := (hT.2.1 a h).2.2.2.2
theorem ty_Node_1 {g : Sg} {R : Nat → Nat → Nat} (hT : Ty g R) {a : Nat} (h : okA g 2 0 a) : okA g 0 0 (R a 1) := (hT.2.2.1 a h).1
theorem ty_Node_2 {g : Sg} {R : Nat → Nat → Nat} (hT : Ty g R) {a : Nat} (h : okA g 2 0 a) : okA g 1 0 (R a 2) := (hT.2.2.1 a h).2
theorem ty_Txn_0 {g : Sg} {R : Nat → Nat → Nat} (hT : Ty g R) {a : Nat} (h : okA g 3 0 a) : okA g 7 8 (R a 0) := (hT.2.2.2.1 a h).1
theorem ty_Txn_1 {g : Sg} {R : Nat → Nat → Nat} (hT : Ty g R) {a : Nat} (h : okA g 3 0 a) : okA g 6 8 (R a 1) := (hT.2.2.2.1 a h).2.1
theorem ty_Txn_2 {g : Sg} {R : Nat → Nat → Nat} (hT : Ty g R) {a : Nat} (h : okA g 3 0 a) : okA g 6 2 (R a 2) := (hT.2.2.2.1 a h).2.2
theorem ty_Store_0 {g : Sg} {R : Nat → Nat → Nat} (hT : Ty g R) {a : Nat} (h : okA g 4 0 a) : okA g 0 0 (R a 0) := (hT.2.2.2.2.1 a h).1
theorem ty_Store_1 {g : Sg} {R : Nat → Nat → Nat} (hT : Ty g R) {a : Nat} (h : okA g 4 0 a) : okA g 8 6 (R a 1) := (hT.2.2.2.2.1 a h).2.1
theorem ty_Store_2 {g : Sg} {R : Nat → Nat → Nat} (hT : Ty g R) {a : Nat} (h : okA g 4 0 a) : okA g 9 16 (R a 2) := (hT.2.2.2.2.1 a h).2.2
theorem ty_Model_2 {g : Sg} {R : Nat → Nat → Nat} (hT : Ty g R) {a : Nat} (h : okA g 5 0 a) : okA g 7 6 (R a 2) := (hT.2.2.2.2.2.1 a h).1
theorem ty_Model_3 {g : Sg} {R : Nat → Nat → Nat} (hT : Ty g R) {a : Nat} (h : okA g 5 0 a) : okA g 6 6 (R a 3) := (hT.2.2.2.2.2.1 a h).2.1
theorem ty_Model_4 {g : Sg} {R : Nat → Nat → Nat} (hT : Ty g R) {a : Nat} (h : okA g 5 0 a) : okA g 6 6 (R a 4) := (hT.2.2.2.2.2.1 a h).2.2.1
theorem ty_Model_5 {g : Sg} {R : Nat → Nat → Nat} (hT : Ty g R) {a : Nat} (h : okA g 5 0 a) : okA g 6 6 (R a 5) := (hT.2.2.2.2.2.1 a h).2.2.2.1
theorem ty_Model_6 {g : Sg} {R : Nat → Nat → Nat} (hT : Ty g R) {a : Nat} (h : okA g 5 0 a) : okA g 6 6 (R a 6) := (hT.2.2.2.2.2.1 a h).2.2.2.2.1
theorem ty_Model_7 {g : Sg} {R : Nat → Nat → Nat} (hT : Ty g R) {a : Nat} (h : okA g 5 0 a) : okA g 7 6 (R a 7) := (hT.2.2.2.2.2.1 a h).2.2.2.2.2.1
theorem ty_Model_8 {g : Sg} {R : Nat → Nat → Nat} (hT : Ty g R) {a : Nat} (h : okA g 5 0 a) : okA g 6 6 (R a 8) := (hT.2.2.2.2.2.1 a h).2.2.2.2.2.2.1
theorem ty_Model_9 {g : Sg} {R : Nat → Nat → Nat} (hT : Ty g R) {a : Nat} (h : okA g 5 0 a) : okA g 6 6 (R a 9) := (hT.2.2.2.2.2.1 a h).2.2.2.2.2.2.2.1
theorem ty_Model_10 {g : Sg} {R : Nat → Nat → Nat} (hT : Ty g R) {a : Nat} (h : okA g 5 0 a) : okA g 6 6 (R a 10) := (hT.2.2.2.2.2.1 a h).2.2.2.2.2.2.2.2.1
theorem ty_Model_11 {g : Sg} {R : Nat → Nat → Nat} (hT : Ty g R) {a : Nat} (h : okA g 5 0 a) : okA g 6 360 (R a 11) := (hT.2.2.2.2.2.1 a h).2.2.2.2.2.2.2.2.2.1
theorem ty_Model_12 {g : Sg} {R : Nat → Nat → Nat} (hT : Ty g R) {a : Nat} (h : okA g 5 0 a) : okA g 6 360 (R a 12) := (hT.2.2.2.2.2.1 a h).2.2.2.2.2.2.2.2.2.2.1
theorem ty_Model_13 {g : Sg} {R : Nat → Nat → Nat} (hT : Ty g R) {a : Nat} (h : okA g 5 0 a) : okA g 6 360 (R a 13) := (hT.2.2.2.2.2.1 a h).2.2.2.2.2.2.2.2.2.2.2.1
theorem ty_Model_14 {g : Sg} {R : Nat → Nat → Nat} (hT : Ty g R) {a : Nat} (h : okA g 5 0 a) : okA g 6 360 (R a 14) := (hT.2.2.2.2.2.1 a h).2.2.2.2.2.2.2.2.2.2.2.2.1
theorem ty_Model_15 {g : Sg} {R : Nat → Nat → Nat} (hT : Ty g R) {a : Nat} (h : okA g 5 0 a) : okA g 6 360 (R a 15) := (hT.2.2.2.2.2.1 a h).2.2.2.2.2.2.2.2.2.2.2.2.2.1
theorem ty_Model_17 {g : Sg} {R : Nat → Nat → Nat} (hT : Ty g R) {a : Nat} (h : okA g 5 0 a) : okA g 6 16 (R a 17) := (hT.2.2.2.2.2.1 a h).2.2.2.2.2.2.2.2.2.2.2.2.2.2.1
theorem ty_Model_18 {g : Sg} {R : Nat → Nat → Nat} (hT : Ty g R) {a : Nat} (h : okA g 5 0 a) : okA g 6 16 (R a 18) := (hT.2.2.2.2.2.1 a h).2.2.2.2.2.2.2.2.2.2.2.2.2.2.2.1
theorem ty_Model_19 {g : Sg} {R : Nat → Nat → Nat} (hT : Ty g R) {a : Nat} (h : okA g 5 0 a) : okA g 6 16 (R a 19) := (hT.2.2.2.2.2.1 a h).2.2.2.2.2.2.2.2.2.2.2.2.2.2.2.2.1
theorem ty_Model_20 {g : Sg} {R : Nat → Nat → Nat} (hT : Ty g R) {a : Nat} (h : okA g 5 0 a) : okA g 6 128 (R a 20) := (hT.2.2.2.2.2.1 a h).2.2.2.2.2.2.2.2.2.2.2.2.2.2.2.2.2.1
theorem ty_Model_21 {g : Sg} {R : Nat → Nat → Nat} (hT : Ty g R) {a : Nat} (h : okA g 5 0 a) : okA g 6 32 (R a 21) := (hT.2.2.2.2.2.1 a h).2.2.2.2.2.2.2.2.2.2.2.2.2.2.2.2.2.2.1
theorem ty_Model_22 {g : Sg} {R : Nat → Nat → Nat} (hT : Ty g R) {a : Nat} (h : okA g 5 0 a) : okA g 6 16 (R a 22) := (hT.2.2.2.2.2.1 a h).2.2.2.2.2.2.2.2.2.2.2.2.2.2.2.2.2.2.2
theorem ty_8 {g : Sg} {R : Nat → Nat → Nat} (hT : Ty g R) {a : Nat} (h : okA g 8 6 a) (j : Nat) : okA g 2 0 (R a j) := hT.2.2.2.2.2.2.1 a h j
theorem ty_9 {g : Sg} {R : Nat → Nat → Nat} (hT : Ty g R) {a : Nat} (h : okA g 9 16 a) (j : Nat) : okA g 3 0 (R a j) := hT.2.2.2.2.2.2.2 a h j
theorem wE_0 {g : Sg} {R : Nat → Nat → Nat} {I : St} {a : Nat} (h : g.kd a = (0, 0)) : wE g R I a = .inr (0, [.int (I a 0), .int (I a 1)]) := by
  unfold wE
  rw [h]
  rfl
theorem wE_1 {g : Sg} {R : Nat → Nat → Nat} {I : St} {a : Nat} (h : g.kd a = (1, 0)) : wE g R I a = .inr (1, [.ref (R a 0), .ref (R a 1), .ref (R a 2), .ref (R a 3), .ref (R a 4), .int (I a 5), .int (I a 6)]) := by
  unfold wE
  rw [h]
  rfl
theorem wE_2 {g : Sg} {R : Nat → Nat → Nat} {I : St} {a : Nat} (h : g.kd a = (2, 0)) : wE g R I a = .inr (2, [.int (I a 0), .ref (R a 1), .ref (R a 2), .int (I a 3), .int (I a 4), .int (I a 5), .int (I a 6), .int (I a 7), .int (I a 8), .int (I a 9)]) := by
  unfold wE
  rw [h]
  rfl
theorem wE_3 {g : Sg} {R : Nat → Nat → Nat} {I : St} {a : Nat} (h : g.kd a = (3, 0)) : wE g R I a = .inr (3, [.ref (R a 0), .ref (R a 1), .ref (R a 2), .int (I a 3), .int (I a 4)]) := by
  unfold wE
  rw [h]
  rfl
theorem wE_4 {g : Sg} {R : Nat → Nat → Nat} {I : St} {a : Nat} (h : g.kd a = (4, 0)) : wE g R I a = .inr (4, [.ref (R a 0), .ref (R a 1), .ref (R a 2), .int (I a 3)]) := by
  unfold wE
  rw [h]
  rfl
theorem wE_5 {g : Sg} {R : Nat → Nat → Nat} {I : St} {a : Nat} (h : g.kd a = (5, 0)) : wE g R I a = .inr (5, [.int (I a 0), .int (I a 1), .ref (R a 2), .ref (R a 3), .ref (R a 4), .ref (R a 5), .ref (R a 6), .ref (R a 7), .ref (R a 8), .ref (R a 9), .ref (R a 10), .ref (R a 11), .ref (R a 12), .ref (R a 13), .ref (R a 14), .ref (R a 15), .int (I a 16), .ref (R a 17), .ref (R a 18), .ref (R a 19), .ref (R a 20), .ref (R a 21), .ref (R a 22)]) := by
  unfold wE
  rw [h]
  rfl
theorem wE_6 {g : Sg} {R : Nat → Nat → Nat} {I : St} {a n : Nat} (h : g.kd a = (6, n)) : wE g R I a = .inl (g.cI, n, .inl (I a)) := by
  unfold wE
  rw [h]
  rfl
theorem wE_7 {g : Sg} {R : Nat → Nat → Nat} {I : St} {a n : Nat} (h : g.kd a = (7, n)) : wE g R I a = .inl (g.cZ, n, .inl (I a)) := by
  unfold wE
  rw [h]
  rfl
theorem wE_8 {g : Sg} {R : Nat → Nat → Nat} {I : St} {a n : Nat} (h : g.kd a = (8, n)) : wE g R I a = .inl (g.cN, n, .inr (.inr (.inr (.inr (fun j => some (R a j)))))) := by
  unfold wE
  rw [h]
  rfl
theorem wE_9 {g : Sg} {R : Nat → Nat → Nat} {I : St} {a n : Nat} (h : g.kd a = (9, n)) : wE g R I a = .inl (g.cT, n, .inr (.inr (.inr (.inr (fun j => some (R a j)))))) := by
  unfold wE
  rw [h]
  rfl
theorem ws_Clock_0 {g : Sg} {R : Nat → Nat → Nat} {I : St} {a : Nat} {v : Int32} (h : g.kd a = (0, 0)) : wF g (R a) (upd (I a) 0 v) (g.kd a) = .inr (0, ([.int (I a 0), .int (I a 1)] : List Value).set 0 (.int v)) := by
  rw [h]
  rfl
theorem ws_Clock_1 {g : Sg} {R : Nat → Nat → Nat} {I : St} {a : Nat} {v : Int32} (h : g.kd a = (0, 0)) : wF g (R a) (upd (I a) 1 v) (g.kd a) = .inr (0, ([.int (I a 0), .int (I a 1)] : List Value).set 1 (.int v)) := by
  rw [h]
  rfl
theorem ws_Log_5 {g : Sg} {R : Nat → Nat → Nat} {I : St} {a : Nat} {v : Int32} (h : g.kd a = (1, 0)) : wF g (R a) (upd (I a) 5 v) (g.kd a) = .inr (1, ([.ref (R a 0), .ref (R a 1), .ref (R a 2), .ref (R a 3), .ref (R a 4), .int (I a 5), .int (I a 6)] : List Value).set 5 (.int v)) := by
  rw [h]
  rfl
theorem ws_Log_6 {g : Sg} {R : Nat → Nat → Nat} {I : St} {a : Nat} {v : Int32} (h : g.kd a = (1, 0)) : wF g (R a) (upd (I a) 6 v) (g.kd a) = .inr (1, ([.ref (R a 0), .ref (R a 1), .ref (R a 2), .ref (R a 3), .ref (R a 4), .int (I a 5), .int (I a 6)] : List Value).set 6 (.int v)) := by
  rw [h]
  rfl
theorem ws_Node_0 {g : Sg} {R : Nat → Nat → Nat} {I : St} {a : Nat} {v : Int32} (h : g.kd a = (2, 0)) : wF g (R a) (upd (I a) 0 v) (g.kd a) = .inr (2, ([.int (I a 0), .ref (R a 1), .ref (R a 2), .int (I a 3), .int (I a 4), .int (I a 5), .int (I a 6), .int (I a 7), .int (I a 8), .int (I a 9)] : List Value).set 0 (.int v)) := by
  rw [h]
  rfl
theorem ws_Node_3 {g : Sg} {R : Nat → Nat → Nat} {I : St} {a : Nat} {v : Int32} (h : g.kd a = (2, 0)) : wF g (R a) (upd (I a) 3 v) (g.kd a) = .inr (2, ([.int (I a 0), .ref (R a 1), .ref (R a 2), .int (I a 3), .int (I a 4), .int (I a 5), .int (I a 6), .int (I a 7), .int (I a 8), .int (I a 9)] : List Value).set 3 (.int v)) := by
  rw [h]
  rfl
theorem ws_Node_4 {g : Sg} {R : Nat → Nat → Nat} {I : St} {a : Nat} {v : Int32} (h : g.kd a = (2, 0)) : wF g (R a) (upd (I a) 4 v) (g.kd a) = .inr (2, ([.int (I a 0), .ref (R a 1), .ref (R a 2), .int (I a 3), .int (I a 4), .int (I a 5), .int (I a 6), .int (I a 7), .int (I a 8), .int (I a 9)] : List Value).set 4 (.int v)) := by
  rw [h]
  rfl
theorem ws_Node_5 {g : Sg} {R : Nat → Nat → Nat} {I : St} {a : Nat} {v : Int32} (h : g.kd a = (2, 0)) : wF g (R a) (upd (I a) 5 v) (g.kd a) = .inr (2, ([.int (I a 0), .ref (R a 1), .ref (R a 2), .int (I a 3), .int (I a 4), .int (I a 5), .int (I a 6), .int (I a 7), .int (I a 8), .int (I a 9)] : List Value).set 5 (.int v)) := by
  rw [h]
  rfl
theorem ws_Node_6 {g : Sg} {R : Nat → Nat → Nat} {I : St} {a : Nat} {v : Int32} (h : g.kd a = (2, 0)) : wF g (R a) (upd (I a) 6 v) (g.kd a) = .inr (2, ([.int (I a 0), .ref (R a 1), .ref (R a 2), .int (I a 3), .int (I a 4), .int (I a 5), .int (I a 6), .int (I a 7), .int (I a 8), .int (I a 9)] : List Value).set 6 (.int v)) := by
  rw [h]
  rfl
theorem ws_Node_7 {g : Sg} {R : Nat → Nat → Nat} {I : St} {a : Nat} {v : Int32} (h : g.kd a = (2, 0)) : wF g (R a) (upd (I a) 7 v) (g.kd a) = .inr (2, ([.int (I a 0), .ref (R a 1), .ref (R a 2), .int (I a 3), .int (I a 4), .int (I a 5), .int (I a 6), .int (I a 7), .int (I a 8), .int (I a 9)] : List Value).set 7 (.int v)) := by
  rw [h]
  rfl
theorem ws_Node_8 {g : Sg} {R : Nat → Nat → Nat} {I : St} {a : Nat} {v : Int32} (h : g.kd a = (2, 0)) : wF g (R a) (upd (I a) 8 v) (g.kd a) = .inr (2, ([.int (I a 0), .ref (R a 1), .ref (R a 2), .int (I a 3), .int (I a 4), .int (I a 5), .int (I a 6), .int (I a 7), .int (I a 8), .int (I a 9)] : List Value).set 8 (.int v)) := by
  rw [h]
  rfl
theorem ws_Node_9 {g : Sg} {R : Nat → Nat → Nat} {I : St} {a : Nat} {v : Int32} (h : g.kd a = (2, 0)) : wF g (R a) (upd (I a) 9 v) (g.kd a) = .inr (2, ([.int (I a 0), .ref (R a 1), .ref (R a 2), .int (I a 3), .int (I a 4), .int (I a 5), .int (I a 6), .int (I a 7), .int (I a 8), .int (I a 9)] : List Value).set 9 (.int v)) := by
  rw [h]
  rfl
theorem ws_Txn_3 {g : Sg} {R : Nat → Nat → Nat} {I : St} {a : Nat} {v : Int32} (h : g.kd a = (3, 0)) : wF g (R a) (upd (I a) 3 v) (g.kd a) = .inr (3, ([.ref (R a 0), .ref (R a 1), .ref (R a 2), .int (I a 3), .int (I a 4)] : List Value).set 3 (.int v)) := by
  rw [h]
  rfl
theorem ws_Txn_4 {g : Sg} {R : Nat → Nat → Nat} {I : St} {a : Nat} {v : Int32} (h : g.kd a = (3, 0)) : wF g (R a) (upd (I a) 4 v) (g.kd a) = .inr (3, ([.ref (R a 0), .ref (R a 1), .ref (R a 2), .int (I a 3), .int (I a 4)] : List Value).set 4 (.int v)) := by
  rw [h]
  rfl
theorem ws_Store_3 {g : Sg} {R : Nat → Nat → Nat} {I : St} {a : Nat} {v : Int32} (h : g.kd a = (4, 0)) : wF g (R a) (upd (I a) 3 v) (g.kd a) = .inr (4, ([.ref (R a 0), .ref (R a 1), .ref (R a 2), .int (I a 3)] : List Value).set 3 (.int v)) := by
  rw [h]
  rfl
theorem ws_Model_0 {g : Sg} {R : Nat → Nat → Nat} {I : St} {a : Nat} {v : Int32} (h : g.kd a = (5, 0)) : wF g (R a) (upd (I a) 0 v) (g.kd a) = .inr (5, ([.int (I a 0), .int (I a 1), .ref (R a 2), .ref (R a 3), .ref (R a 4), .ref (R a 5), .ref (R a 6), .ref (R a 7), .ref (R a 8), .ref (R a 9), .ref (R a 10), .ref (R a 11), .ref (R a 12), .ref (R a 13), .ref (R a 14), .ref (R a 15), .int (I a 16), .ref (R a 17), .ref (R a 18), .ref (R a 19), .ref (R a 20), .ref (R a 21), .ref (R a 22)] : List Value).set 0 (.int v)) := by
  rw [h]
  rfl
theorem ws_Model_1 {g : Sg} {R : Nat → Nat → Nat} {I : St} {a : Nat} {v : Int32} (h : g.kd a = (5, 0)) : wF g (R a) (upd (I a) 1 v) (g.kd a) = .inr (5, ([.int (I a 0), .int (I a 1), .ref (R a 2), .ref (R a 3), .ref (R a 4), .ref (R a 5), .ref (R a 6), .ref (R a 7), .ref (R a 8), .ref (R a 9), .ref (R a 10), .ref (R a 11), .ref (R a 12), .ref (R a 13), .ref (R a 14), .ref (R a 15), .int (I a 16), .ref (R a 17), .ref (R a 18), .ref (R a 19), .ref (R a 20), .ref (R a 21), .ref (R a 22)] : List Value).set 1 (.int v)) := by
  rw [h]
  rfl
theorem ws_Model_16 {g : Sg} {R : Nat → Nat → Nat} {I : St} {a : Nat} {v : Int32} (h : g.kd a = (5, 0)) : wF g (R a) (upd (I a) 16 v) (g.kd a) = .inr (5, ([.int (I a 0), .int (I a 1), .ref (R a 2), .ref (R a 3), .ref (R a 4), .ref (R a 5), .ref (R a 6), .ref (R a 7), .ref (R a 8), .ref (R a 9), .ref (R a 10), .ref (R a 11), .ref (R a 12), .ref (R a 13), .ref (R a 14), .ref (R a 15), .int (I a 16), .ref (R a 17), .ref (R a 18), .ref (R a 19), .ref (R a 20), .ref (R a 21), .ref (R a 22)] : List Value).set 16 (.int v)) := by
  rw [h]
  rfl
theorem wE_up {g : Sg} {R : Nat → Nat → Nat} {I : St} {a k : Nat} {v : Int32} {x : va_E} (h : wF g (R a) (upd (I a) k v) (g.kd a) = x) : va_up (wE g R I) a x = wE g R (up2 I a k v) := by
  funext b
  by_cases hb : b = a
  · subst hb
    rw [va_up_self, ← h]
    show _ = wF g (R b) (up2 I b k v b) (g.kd b)
    rw [up2_self]
  · rw [va_up_ne _ _ hb]
    show wF g (R b) (I b) (g.kd b) = wF g (R b) (up2 I a k v b) (g.kd b)
    rw [up2_ne _ _ _ hb]
theorem wD {g : Sg} (h : g.L.Nodup) (f : Nat → va_E) : va_D (· ∈ g.L) (va_pl g.L f) := by
  have key : ∀ (i : Nat) (p : Nat × va_E), (va_pl g.L f)[i]? = some p → g.L[i]? = some p.1 := by
    intro i p hp
    simp only [va_pl, List.getElem?_map] at hp
    cases hi : g.L[i]? with
    | none => rw [hi] at hp; cases hp
    | some b => rw [hi] at hp; rw [← Option.some.inj hp]
  refine ⟨fun i j p q hi hj e => ?_, fun k q hk => List.mem_of_getElem? (key k q hk)⟩
  have h1 := key i p hi
  have h2 := key j q hj
  rw [← e] at h2
  exact (List.getElem?_inj (List.getElem?_eq_some_iff.mp h1).1 h).mp (h1.trans h2.symm)
def ap {α β : Type} (x : α) (f : α → β) : β := f x
theorem ap_el {α β : Type} {x y : α} {f : α → β} {r : β} (e : y = x) (h : ap x f = r) : f y = r := by subst e; exact h
def chk {α : Type} (i : Int32) (n : Nat) (x : Option α) : Option α := if i < 0 ∨ n ≤ i.toNatClampNeg then none else x
theorem chk_el {α : Type} {i : Int32} {n : Nat} {x : Option α} {r : α} (h : chk i n x = some r) : vp_in i n ∧ x = some r := by
  unfold chk at h
  by_cases hc : i < 0 ∨ n ≤ i.toNatClampNeg
  · rw [if_pos hc] at h; cases h
  · rw [if_neg hc] at h; exact ⟨hc, h⟩
def ob {α β : Type} (o : Option α) (f : α → Option β) : Option β := match o with
  | none => none
  | some x => f x
theorem ob_el {α β : Type} {o : Option α} {f : α → Option β} {r : β} (h : ob o f = some r) : ∃ x, o = some x ∧ f x = some r := by
  cases o with
  | none => cases h
  | some x => exact ⟨x, rfl, h⟩
def ob2 {β : Type} (o : Option (Int32 × St)) (f : Int32 → St → Option β) : Option β := match o with
  | none => none
  | some x => f x.1 x.2
theorem ob2_el {β : Type} {o : Option (Int32 × St)} {f : Int32 → St → Option β} {r : β} (h : ob2 o f = some r) : ∃ (v : Int32) (J : St), o = some (v, J) ∧ f v J = some r := by
  cases o with
  | none => cases h
  | some x => exact ⟨x.1, x.2, rfl, h⟩
theorem i_pos {α : Type} {q : Prop} [Decidable q] {a b r : α} (hc : q) (h : (if q then a else b) = r) : a = r := by rw [if_pos hc] at h; exact h
theorem i_neg {α : Type} {q : Prop} [Decidable q] {a b r : α} (hc : ¬ q) (h : (if q then a else b) = r) : b = r := by rw [if_neg hc] at h; exact h
theorem rt_el {x v : Int32} {I J : St} (h : some (x, I) = some (v, J)) : x = v ∧ I = J := by cases h; exact ⟨rfl, rfl⟩
theorem nz_el {α : Type} {y : Int32} {x : Option α} {r : α} (h : (if y = 0 then none else x) = some r) : ¬ y = 0 ∧ x = some r := by
  by_cases hc : y = 0
  · rw [if_pos hc] at h; cases h
  · rw [if_neg hc] at h; exact ⟨hc, h⟩
def zck {α : Type} (x : Int32) (k : Option α) : Option α := if x = 0 ∨ x = 1 then k else none
theorem zck_el {α : Type} {x : Int32} {k : Option α} {r : α} (h : zck x k = some r) : narrow .boolean (.int x) = .int x ∧ k = some r := by
  unfold zck at h
  by_cases hc : x = 0 ∨ x = 1
  · rw [if_pos hc] at h
    refine ⟨?_, h⟩
    rcases hc with rfl | rfl <;> rfl
  · rw [if_neg hc] at h; cases h
/-- a method of a class of the JDK that has natives, itself none -/
theorem Met_ofWF {l : Launch} {y : MethodName} {ws ws' : List Cond} {rm : Room} {Pc : Array Value → State → Prop} {Qc : Array Value → State → Outcome → State → Prop} {mc ms : Nat} {free : Addr → Prop} {cc : ByteArray} {maxL : Nat} {ret : Option FieldType}
    (hy : plainFor y = true) (hw : ws = Cond.code y cc maxL ret :: ws')
    (body : ∀ p e s m args below meth c s₁, BodyLoose p l y (headSpec ws rm) cc maxL ret e s m args below meth c s₁ → c.maxLocals = maxL → Pc args s →
      W p l e (headSpec ws rm).room s m args below meth c s.heap [] 0 0 (MQ below Qc args s mc ms free) (entryFrame m args maxL)) : Met l y ws rm Pc Qc mc ms free := by
  refine MetFree.of_bodySF (code := cc) (maxLocals := maxL) (ret := ret) hy ?_ ?_
  · intro args s m h hn
    obtain ⟨meth, c, h1, h2, h3, h4, h5, h6, -, -⟩ := Cond.code_spec hn (atoms_spec (ws := ws) h _ (by rw [hw]; exact List.mem_cons_self))
    exact ⟨meth, c, h1, h2, h3, h4, h5, h6⟩
  · intro p e s m args below meth c s₁ B hml hP _
    have hh0 : s₁.heap = s.heap := by rw [B.state]; rfl
    obtain ⟨t, a1, o, b1, b2, b3⟩ := body p e s m args below meth c s₁ B hml hP s₁ hh0 (Stand.of_body B)
    exact ⟨t, o, a1, b1, b2, ⟨b3.1, b3.2⟩⟩
def imax (x y : Int32) : Int32 := if x < y then y else x
def imin (x y : Int32) : Int32 := if y < x then y else x
/-- what a method answers and leaves, for the machine -/
def Qi (g : Sg) (R : Nat → Nat → Nat) (v : Int32) (I : St) : Array Value → State → Outcome → State → Prop := va_Qi (fun r (_ : Unit) => r = v) (fun _ t => wW g R I t.heap ∧ wK g t) (· ∈ g.L)
def Qu (g : Sg) (R : Nat → Nat → Nat) (I : St) : Array Value → State → Outcome → State → Prop := va_Qv (fun (_ : Unit) => True) (fun _ t => wW g R I t.heap ∧ wK g t) (· ∈ g.L)
def Pi (g : Sg) (R : Nat → Nat → Nat) (I : St) (av : List Value) : Array Value → State → Prop := va_Pc av (fun U => wW g R I U.heap ∧ wK g U)
def Cti (l : Launch) (g : Sg) (R : Nat → Nat → Nat) (y : MethodName) (ws : List Cond) (fr lo : Nat) (av : List Value) (I : St) (v : Int32) (J : St) : Prop := Met l y ws { frames := fr, cells := 0, slots := 0, locals := lo } (Pi g R I av) (Qi g R v J) 0 0 (· ∈ g.L)
def Ctv (l : Launch) (g : Sg) (R : Nat → Nat → Nat) (y : MethodName) (ws : List Cond) (fr lo : Nat) (av : List Value) (I : St) (J : St) : Prop := Met l y ws { frames := fr, cells := 0, slots := 0, locals := lo } (Pi g R I av) (Qu g R J) 0 0 (· ∈ g.L)
theorem Pi_blind (g : Sg) (R : Nat → Nat → Nat) (I : St) (av : List Value) : FrameBlind (Pi g R I av) := fun a U gg mk q => ⟨q.1, q.2.1, q.2.2.bl gg mk a⟩
/-- what stands through a method's body -/
def Cx (p : Program) (s : State) (m : MethodId) (args : Array Value) (meth : Method) (c : Code) (g : Sg) (R : Nat → Nat → Nat) (own : String) (cc : ByteArray) (nL : Nat) (ret : Option FieldType) : Prop :=
  p.tables.exec = Jvm.exec ∧ c.code = cc ∧ c.maxLocals = nL ∧ meth.sig.returnType = ret ∧ meth.locks = false ∧ s.vm.findClass own = some m.cls ∧ (∀ w ∈ w_all, w.before args s = true) ∧ Ty g R ∧ wK g s
end
section
variable {p : Program} {l : Launch} {e : Env} {Rm : Room} {s : State} {m : MethodId} {args : Array Value} {below : List Frame} {meth : Method} {c : Code} {H H0 : Heap} {locs : List Loc} {Q : State → Prop}
variable {cc : ByteArray} {pc : Nat} {ls : Array Slot} {rest : List Value} {g : Sg} {R : Nat → Nat → Nat} {I : St} {a : Nat} {own ref C : String} {T : u_T} {N ci index : Nat} {Ts : List Cond}
theorem sw_eq {x k : Int32} (hc : x = k) (kk : W p l e Rm s m args below meth c H locs 0 0 Q (F0 m pc ls (.int k :: rest))) : W p l e Rm s m args below meth c H locs 0 0 Q (F0 m pc ls (.int x :: rest)) := by subst hc; exact kk
theorem gg_max {nL : Nat} (hexec : p.tables.exec = Jvm.exec) (hb : c.code = cc) (hml : c.maxLocals = nL) (hsz : ls.size = nL) (hown : s.vm.findClass own = some m.cls) (hlink : (Cond.methodLink own index Lib.Math.max.name).before args s = true) (hstat : (Cond.static Lib.Math.max.name).before args s = true) (hini : (Cond.initialized "java/lang/Math").before args s = true) (hcode : (Cond.code Lib.Math.max.name Lib.Math.max.code 2 (some .int)).before args s = true) (hframes : 1 ≤ Rm.frames) (hlocals : (rest.map fun v => v.category).sum + 13 ≤ Rm.locals) {x y : Int32} (hdg : decode cc pc = .ok (.invokestatic index, 3))
    (kk : W p l e Rm s m args below meth c H locs 0 0 Q (F0 m (pc + 3) ls (.int (imax x y) :: rest))) : W p l e Rm s m args below meth c H locs 0 0 Q (F0 m pc ls (.int y :: .int x :: rest)) :=
  va_mmax hexec hb (hml.trans hsz.symm) hown hlink hstat hini hcode hframes hlocals (Nat.zero_le _) (Nat.zero_le _) hdg kk
theorem gg_min {nL : Nat} (hexec : p.tables.exec = Jvm.exec) (hb : c.code = cc) (hml : c.maxLocals = nL) (hsz : ls.size = nL) (hown : s.vm.findClass own = some m.cls) (hlink : (Cond.methodLink own index Lib.Math.min.name).before args s = true) (hstat : (Cond.static Lib.Math.min.name).before args s = true) (hini : (Cond.initialized "java/lang/Math").before args s = true) (hcode : (Cond.code Lib.Math.min.name Lib.Math.min.code 2 (some .int)).before args s = true) (hframes : 1 ≤ Rm.frames) (hlocals : (rest.map fun v => v.category).sum + 13 ≤ Rm.locals) {x y : Int32} (hdg : decode cc pc = .ok (.invokestatic index, 3))
    (kk : W p l e Rm s m args below meth c H locs 0 0 Q (F0 m (pc + 3) ls (.int (imin x y) :: rest))) : W p l e Rm s m args below meth c H locs 0 0 Q (F0 m pc ls (.int y :: .int x :: rest)) :=
  va_mmin hexec hb (hml.trans hsz.symm) hown hlink hstat hini hcode hframes hlocals (Nat.zero_le _) (Nat.zero_le _) hdg kk
theorem gg_get (hexec : p.tables.exec = Jvm.exec) (hb : c.code = cc) (hts : ∀ w ∈ Ts, w.before args s = true) (hin : ∀ w ∈ u_ws C T N, w ∈ Ts) (hown : s.vm.findClass own = some m.cls) (hK : wK g s) (hP : wW g R I H) (ha : a ∈ g.L) {fs : List Value} (hf : wE g R I a = .inr (ci, fs)) (hc : classes[ci]? = some (C, T, N)) (k : Nat) (hk : k < N) (hlink : (Cond.fieldLink own index ref (T k).2.1 (T k).2.2.1).before args s = true) (hsame : ∀ x, s.fieldFound? (T k).1 (T k).2.1 (T k).2.2.1 = some x → s.fieldFound? ref (T k).2.1 (T k).2.2.1 = some x) {v : Value} (hv : fs[k]? = some v) (hdg : decode cc pc = .ok (.getfield index, 3))
    (kk : W p l e Rm s m args below meth c H locs 0 0 Q (F0 m (pc + 3) ls (v :: rest))) : W p l e Rm s m args below meth c H locs 0 0 Q (F0 m pc ls (.ref a :: rest)) := by
  obtain ⟨q, hq⟩ := va_pl_get (X := []) (f := wE g R I) ha
  have hq : (va_pl g.L (wE g R I))[q]? = some (a, .inr (ci, fs)) := by rw [← hf]; exact hq
  exact va_get hexec hb hts hin hown hK.1 hP q hq hc k hk hlink hsame hv hdg kk
theorem gg_put (hexec : p.tables.exec = Jvm.exec) (hb : c.code = cc) (hts : ∀ w ∈ Ts, w.before args s = true) (hin : ∀ w ∈ u_ws C T N, w ∈ Ts) (ty0 : Nat → FieldType) (hty : ∀ k, k < N → parseFieldDescriptor (T k).2.2.1 = some (ty0 k)) (hnm : ∀ a, a < N → ∀ b, b < N → a ≠ b → (T a).2.1 ≠ (T b).2.1) (hown : s.vm.findClass own = some m.cls) (hN : g.L.Nodup) (hK : wK g s) (hP : wW g R I H) (hS : va_S (· ∈ g.L) H0 H locs) (ha : a ∈ g.L) {fs : List Value} (hf : wE g R I a = .inr (ci, fs)) (hc : classes[ci]? = some (C, T, N)) (k : Nat) (hk : k < N) (hlink : (Cond.fieldLink own index ref (T k).2.1 (T k).2.2.1).before args s = true) (hsame : ∀ x, s.fieldFound? (T k).1 (T k).2.1 (T k).2.2.1 = some x → s.fieldFound? ref (T k).2.1 (T k).2.2.1 = some x) (hfin : (T k).2.2.2 = false) {ty : FieldType} {v : Int32} (hd : parseFieldDescriptor (T k).2.2.1 = some ty) (hn : narrow ty (.int v) = .int v) (hfit : fits ty (.int v) = true) (hl : k < fs.length) (hset : wF g (R a) (upd (I a) k v) (g.kd a) = .inr (ci, fs.set k (.int v)))
    (hdg : decode cc pc = .ok (.putfield index, 3)) (kk : ∀ (J : St) (H1 : Heap) (locs1 : List Loc), J = up2 I a k v → wW g R J H1 → va_S (· ∈ g.L) H0 H1 locs1 → W p l e Rm s m args below meth c H1 locs1 0 0 Q (F0 m (pc + 3) ls rest)) : W p l e Rm s m args below meth c H locs 0 0 Q (F0 m pc ls (.int v :: .ref a :: rest)) := by
  obtain ⟨q, hq⟩ := va_pl_get (X := []) (f := wE g R I) ha
  have hq2 : (va_pl g.L (wE g R I))[q]? = some (a, .inr (ci, fs)) := by rw [← hf]; exact hq
  have hD := wD hN (wE g R I)
  refine va_put hexec hb hts hin ty0 hty hnm hown hK.1 hP hD hS q hq2 hc k hk hlink hsame hfin hd hn hfit hl hdg (fun H1 locs1 hP1 _ hS1 => kk _ H1 locs1 rfl ?_ hS1)
  have hs := va_pl_set (X := []) (e := .inr (ci, fs.set k (.int v))) hD ha hq
  rw [wE_up hset] at hs
  have hs : (va_pl g.L (wE g R I)).set q (a, .inr (ci, fs.set k (.int v))) = va_pl g.L (wE g R (up2 I a k v)) := hs
  rw [hs] at hP1
  exact hP1
theorem gg_iald (hexec : p.tables.exec = Jvm.exec) (hb : c.code = cc) (hK : wK g s) (hP : wW g R I H) {n : Nat} (ha : okA g 6 n a) {i : Int32} (hin : vp_in i n) (hdg : decode cc pc = .ok (.iaload, 1))
    (kk : W p l e Rm s m args below meth c H locs 0 0 Q (F0 m (pc + 1) ls (.int (I a i.toNatClampNeg) :: rest))) : W p l e Rm s m args below meth c H locs 0 0 Q (F0 m pc ls (.int i :: .ref a :: rest)) := by
  obtain ⟨q, hq⟩ := va_pl_get (X := []) (f := wE g R I) ha.1
  have hq : (va_pl g.L (wE g R I))[q]? = some (a, .inl (g.cI, n, .inl (I a))) := by rw [← wE_6 ha.2]; exact hq
  exact va_iald hexec hb hK.1 hP q 0 hq rfl hin hdg kk
theorem gg_zald (hexec : p.tables.exec = Jvm.exec) (hb : c.code = cc) (hK : wK g s) (hP : wW g R I H) {n : Nat} (ha : okA g 7 n a) {i : Int32} (hin : vp_in i n) (hdg : decode cc pc = .ok (.baload, 1))
    (kk : W p l e Rm s m args below meth c H locs 0 0 Q (F0 m (pc + 1) ls (.int (I a i.toNatClampNeg) :: rest))) : W p l e Rm s m args below meth c H locs 0 0 Q (F0 m pc ls (.int i :: .ref a :: rest)) := by
  obtain ⟨q, hq⟩ := va_pl_get (X := []) (f := wE g R I) ha.1
  have hq : (va_pl g.L (wE g R I))[q]? = some (a, .inl (g.cZ, n, .inl (I a))) := by rw [← wE_7 ha.2]; exact hq
  exact va_zald hexec hb hK.1 hP q 1 hq rfl hin hdg kk
theorem gg_nald (hexec : p.tables.exec = Jvm.exec) (hb : c.code = cc) (hK : wK g s) (hP : wW g R I H) {n : Nat} (ha : okA g 8 n a) {i : Int32} (hin : vp_in i n) (hdg : decode cc pc = .ok (.aaload, 1))
    (kk : W p l e Rm s m args below meth c H locs 0 0 Q (F0 m (pc + 1) ls (.ref (R a i.toNatClampNeg) :: rest))) : W p l e Rm s m args below meth c H locs 0 0 Q (F0 m pc ls (.int i :: .ref a :: rest)) := by
  obtain ⟨q, hq⟩ := va_pl_get (X := []) (f := wE g R I) ha.1
  have hq : (va_pl g.L (wE g R I))[q]? = some (a, .inl (g.cN, n, .inr (.inr (.inr (.inr (fun j => some (R a j))))))) := by rw [← wE_8 ha.2]; exact hq
  exact va_aldq hexec hb hK.1 hP q 2 hq rfl hin hdg kk
theorem gg_tald (hexec : p.tables.exec = Jvm.exec) (hb : c.code = cc) (hK : wK g s) (hP : wW g R I H) {n : Nat} (ha : okA g 9 n a) {i : Int32} (hin : vp_in i n) (hdg : decode cc pc = .ok (.aaload, 1))
    (kk : W p l e Rm s m args below meth c H locs 0 0 Q (F0 m (pc + 1) ls (.ref (R a i.toNatClampNeg) :: rest))) : W p l e Rm s m args below meth c H locs 0 0 Q (F0 m pc ls (.int i :: .ref a :: rest)) := by
  obtain ⟨q, hq⟩ := va_pl_get (X := []) (f := wE g R I) ha.1
  have hq : (va_pl g.L (wE g R I))[q]? = some (a, .inl (g.cT, n, .inr (.inr (.inr (.inr (fun j => some (R a j))))))) := by rw [← wE_9 ha.2]; exact hq
  exact va_aldq hexec hb hK.1 hP q 3 hq rfl hin hdg kk
theorem gg_iast (hexec : p.tables.exec = Jvm.exec) (hb : c.code = cc) (hN : g.L.Nodup) (hK : wK g s) (hP : wW g R I H) (hS : va_S (· ∈ g.L) H0 H locs) {n : Nat} (ha : okA g 6 n a) {i x : Int32} (hin : vp_in i n) (hdg : decode cc pc = .ok (.iastore, 1))
    (kk : ∀ (J : St) (H1 : Heap) (locs1 : List Loc), J = up2 I a i.toNatClampNeg x → wW g R J H1 → va_S (· ∈ g.L) H0 H1 locs1 → W p l e Rm s m args below meth c H1 locs1 0 0 Q (F0 m (pc + 1) ls rest)) : W p l e Rm s m args below meth c H locs 0 0 Q (F0 m pc ls (.int x :: .int i :: .ref a :: rest)) := by
  obtain ⟨q, hq⟩ := va_pl_get (X := []) (f := wE g R I) ha.1
  have hq2 : (va_pl g.L (wE g R I))[q]? = some (a, .inl (g.cI, n, .inl (I a))) := by rw [← wE_6 ha.2]; exact hq
  have hD := wD hN (wE g R I)
  refine va_iast hexec hb hK.1 hP hD hS q 0 hq2 rfl hin hdg (fun H1 locs1 hP1 _ hS1 => kk _ H1 locs1 rfl ?_ hS1)
  have hs := va_pl_set (X := []) (e := .inl (g.cI, n, .inl (upd (I a) i.toNatClampNeg x))) hD ha.1 hq
  rw [wE_up (k := i.toNatClampNeg) (v := x) (by rw [ha.2]; rfl)] at hs
  have hs : (va_pl g.L (wE g R I)).set q (a, .inl (g.cI, n, .inl (upd (I a) i.toNatClampNeg x))) = va_pl g.L (wE g R (up2 I a i.toNatClampNeg x)) := hs
  rw [hs] at hP1
  exact hP1
theorem gg_zast (hexec : p.tables.exec = Jvm.exec) (hb : c.code = cc) (hN : g.L.Nodup) (hK : wK g s) (hP : wW g R I H) (hS : va_S (· ∈ g.L) H0 H locs) {n : Nat} (ha : okA g 7 n a) {i x : Int32} (hin : vp_in i n) (hdg : decode cc pc = .ok (.bastore, 1))
    (kk : ∀ (J : St) (H1 : Heap) (locs1 : List Loc), J = up2 I a i.toNatClampNeg (vp_nar .boolean x) → wW g R J H1 → va_S (· ∈ g.L) H0 H1 locs1 → W p l e Rm s m args below meth c H1 locs1 0 0 Q (F0 m (pc + 1) ls rest)) : W p l e Rm s m args below meth c H locs 0 0 Q (F0 m pc ls (.int x :: .int i :: .ref a :: rest)) := by
  obtain ⟨q, hq⟩ := va_pl_get (X := []) (f := wE g R I) ha.1
  have hq2 : (va_pl g.L (wE g R I))[q]? = some (a, .inl (g.cZ, n, .inl (I a))) := by rw [← wE_7 ha.2]; exact hq
  have hD := wD hN (wE g R I)
  refine va_zast hexec hb hK.1 hP hD hS q 1 hq2 rfl hin hdg (fun H1 locs1 hP1 _ hS1 => kk _ H1 locs1 rfl ?_ hS1)
  have hs := va_pl_set (X := []) (e := .inl (g.cZ, n, .inl (upd (I a) i.toNatClampNeg (vp_nar .boolean x)))) hD ha.1 hq
  rw [wE_up (k := i.toNatClampNeg) (v := vp_nar .boolean x) (by rw [ha.2]; rfl)] at hs
  have hs : (va_pl g.L (wE g R I)).set q (a, .inl (g.cZ, n, .inl (upd (I a) i.toNatClampNeg (vp_nar .boolean x)))) = va_pl g.L (wE g R (up2 I a i.toNatClampNeg (vp_nar .boolean x))) := hs
  rw [hs] at hP1
  exact hP1
theorem gg_iret {v : Int32} (hexec : p.tables.exec = Jvm.exec) (hb : c.code = cc) (hr : meth.sig.returnType = some .int) (hlk : meth.locks = false) (hK : wK g s) (hP : wW g R I H) (hS : va_S (· ∈ g.L) s.heap H locs) (hdg : decode cc pc = .ok (.ireturn, 1)) : W p l e Rm s m args below meth c H locs 0 0 (MQ below (Qi g R v I) args s 0 0 (· ∈ g.L)) (F0 m pc ls [.int v]) :=
  W.iret (v := v) hexec hb hr (fun t ht hW => ⟨⟨v, (), rfl, rfl, by rw [ht]; exact hP, hK.mv hW⟩, hS.F ht⟩) hS.2.2 hdg hlk
theorem gg_zret {v : Int32} (hexec : p.tables.exec = Jvm.exec) (hb : c.code = cc) (hr : meth.sig.returnType = some .boolean) (hlk : meth.locks = false) (hn : narrow .boolean (.int v) = .int v) (hK : wK g s) (hP : wW g R I H) (hS : va_S (· ∈ g.L) s.heap H locs) (hdg : decode cc pc = .ok (.ireturn, 1)) : W p l e Rm s m args below meth c H locs 0 0 (MQ below (Qi g R v I) args s 0 0 (· ∈ g.L)) (F0 m pc ls [.int v]) :=
  W.zret (v := v) hexec hb hr hn (fun t ht hW => ⟨⟨v, (), rfl, rfl, by rw [ht]; exact hP, hK.mv hW⟩, hS.F ht⟩) hS.2.2 hdg hlk
theorem gg_vret (hexec : p.tables.exec = Jvm.exec) (hb : c.code = cc) (hr : meth.sig.returnType = none) (hlk : meth.locks = false) (hK : wK g s) (hP : wW g R I H) (hS : va_S (· ∈ g.L) s.heap H locs) (hdg : decode cc pc = .ok (.return_, 1)) : W p l e Rm s m args below meth c H locs 0 0 (MQ below (Qu g R I) args s 0 0 (· ∈ g.L)) (F0 m pc ls []) :=
  W.vret hexec hb hr (fun t ht hW => ⟨⟨(), rfl, trivial, by rw [ht]; exact hP, hK.mv hW⟩, hS.F ht⟩) hS.2.2 hdg hlk
variable {y : MethodName} {bytes : ByteArray} {maxL nL n fr lo : Nat} {ret : Option FieldType} {ws : List Cond} {b : Nat} {As st0 : List Value} {v : Int32} {J : St} {host : String}
theorem gg_Vi (S : CallFix p m c cc nL s args Ts own) (hM : Cti l g R y ws fr lo (.ref b :: As) I v J) (cw : CallW Rm s args own C index y bytes maxL ret ws { frames := fr, cells := 0, slots := 0, locals := lo } 0 0 n) (hK : wK g s) (hP : wW g R I H) (hS : va_S (· ∈ g.L) H0 H locs) (ha : b ∈ g.L) {fs : List Value} (hf : wE g R I b = .inr (ci, fs)) (hc : classes[ci]? = some (C, T, N)) (hn : As.length = n) (hsz : ls.size = nL) (hst : st0 = As.reverse ++ .ref b :: rest) (hrm : (rest.map fun v => v.category).sum ≤ 8) (hdg : decode cc pc = .ok (.invokevirtual index, 3))
    (kk : ∀ (H1 : Heap) (locs1 : List Loc), wW g R J H1 → va_S (· ∈ g.L) H0 H1 locs1 → W p l e Rm s m args below meth c H1 locs1 0 0 Q (F0 m (pc + 3) ls (.int v :: rest))) : W p l e Rm s m args below meth c H locs 0 0 Q (F0 m pc ls st0) := by
  obtain ⟨q, hq⟩ := va_pl_get (X := []) (f := wE g R I) ha
  have hq : (va_pl g.L (wE g R I))[q]? = some (b, .inr (ci, fs)) := by rw [← hf]; exact hq
  refine va_calli (va_runV S hM cw ⟨Pi_blind g R I _, va_recv hK.1 hP hc hq, fun U hU hW => ⟨rfl, by rw [hU]; exact hP, hK.mv hW⟩⟩ rfl hn hsz hst (lv_room hrm) hdg ⟨Nat.zero_le _, Nat.zero_le _⟩) hS (fun q _ h => h) (fun q h => h) (fun r u t H1 locs1 ht hvm hpost hB hz1 hk1 hS1 => ?_)
  subst hpost
  exact kk H1 locs1 (by rw [← ht]; exact hB.1) hS1
theorem gg_Vv (S : CallFix p m c cc nL s args Ts own) (hM : Ctv l g R y ws fr lo (.ref b :: As) I J) (cw : CallW Rm s args own C index y bytes maxL ret ws { frames := fr, cells := 0, slots := 0, locals := lo } 0 0 n) (hK : wK g s) (hP : wW g R I H) (hS : va_S (· ∈ g.L) H0 H locs) (ha : b ∈ g.L) {fs : List Value} (hf : wE g R I b = .inr (ci, fs)) (hc : classes[ci]? = some (C, T, N)) (hn : As.length = n) (hsz : ls.size = nL) (hst : st0 = As.reverse ++ .ref b :: rest) (hrm : (rest.map fun v => v.category).sum ≤ 8) (hdg : decode cc pc = .ok (.invokevirtual index, 3))
    (kk : ∀ (H1 : Heap) (locs1 : List Loc), wW g R J H1 → va_S (· ∈ g.L) H0 H1 locs1 → W p l e Rm s m args below meth c H1 locs1 0 0 Q (F0 m (pc + 3) ls rest)) : W p l e Rm s m args below meth c H locs 0 0 Q (F0 m pc ls st0) := by
  obtain ⟨q, hq⟩ := va_pl_get (X := []) (f := wE g R I) ha
  have hq : (va_pl g.L (wE g R I))[q]? = some (b, .inr (ci, fs)) := by rw [← hf]; exact hq
  refine va_callv (va_runV S hM cw ⟨Pi_blind g R I _, va_recv hK.1 hP hc hq, fun U hU hW => ⟨rfl, by rw [hU]; exact hP, hK.mv hW⟩⟩ rfl hn hsz hst (lv_room hrm) hdg ⟨Nat.zero_le _, Nat.zero_le _⟩) hS (fun q _ h => h) (fun q h => h) (fun u t H1 locs1 ht hvm hpost hB hz1 hk1 hS1 => ?_)
  exact kk H1 locs1 (by rw [← ht]; exact hB.1) hS1
theorem gg_Si (S : CallFix p m c cc nL s args Ts own) (hM : Cti l g R y ws fr lo As I v J) (cw : CallB Rm s args own index y bytes maxL ret ws { frames := fr, cells := 0, slots := 0, locals := lo } 0 0 n ∧ (Cond.static y).before args s = true) (hK : wK g s) (hP : wW g R I H) (hS : va_S (· ∈ g.L) H0 H locs) (hn : As.length = n) (hsz : ls.size = nL) (hst : st0 = As.reverse ++ rest) (hrm : (rest.map fun v => v.category).sum ≤ 8) (hdg : decode cc pc = .ok (.invokestatic index, 3))
    (kk : ∀ (H1 : Heap) (locs1 : List Loc), wW g R J H1 → va_S (· ∈ g.L) H0 H1 locs1 → W p l e Rm s m args below meth c H1 locs1 0 0 Q (F0 m (pc + 3) ls (.int v :: rest))) : W p l e Rm s m args below meth c H locs 0 0 Q (F0 m pc ls st0) := by
  refine va_calli (va_runS S hM cw ⟨Pi_blind g R I _, fun U hU hW => ⟨rfl, by rw [hU]; exact hP, hK.mv hW⟩⟩ rfl hn hsz hst (lv_room hrm) hdg ⟨Nat.zero_le _, Nat.zero_le _⟩) hS (fun q _ h => h) (fun q h => h) (fun r u t H1 locs1 ht hvm hpost hB hz1 hk1 hS1 => ?_)
  subst hpost
  exact kk H1 locs1 (by rw [← ht]; exact hB.1) hS1
theorem gg_SNi (S : CallFix p m c cc nL s args Ts own) (hM : Cti l g R y ws fr lo As I v J) (cw : va_CN Rm s args own index y host bytes maxL ret ws { frames := fr, cells := 0, slots := 0, locals := lo } 0 0 n ∧ (Cond.static y).before args s = true ∧ True) (hK : wK g s) (hP : wW g R I H) (hS : va_S (· ∈ g.L) H0 H locs) (hn : As.length = n) (hsz : ls.size = nL) (hst : st0 = As.reverse ++ rest) (hrm : (rest.map fun v => v.category).sum ≤ 8) (hdg : decode cc pc = .ok (.invokestatic index, 3))
    (kk : ∀ (H1 : Heap) (locs1 : List Loc), wW g R J H1 → va_S (· ∈ g.L) H0 H1 locs1 → W p l e Rm s m args below meth c H1 locs1 0 0 Q (F0 m (pc + 3) ls (.int v :: rest))) : W p l e Rm s m args below meth c H locs 0 0 Q (F0 m pc ls st0) := by
  refine va_calli (va_runSN S hM cw ⟨Pi_blind g R I _, fun U hU hW => ⟨rfl, by rw [hU]; exact hP, hK.mv hW⟩⟩ rfl hn hsz hst (lv_room hrm) hdg ⟨Nat.zero_le _, Nat.zero_le _⟩) hS (fun q _ h => h) (fun q h => h) (fun r u t H1 locs1 ht hvm hpost hB hz1 hk1 hS1 => ?_)
  subst hpost
  exact kk H1 locs1 (by rw [← ht]; exact hB.1) hS1
end
