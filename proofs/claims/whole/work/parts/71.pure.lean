section
def Lat (A : Nat → Nat) (I : St) (n : Nat) : Int32 := I (A 110) 1 + I (A 112) n + I (A 110) 0
def Ear (A : Nat → Nat) (I : St) (n : Nat) : Int32 := I (A 110) 1 + I (A 112) n - I (A 110) 0
def Act (A : Nat → Nat) (I : St) (n : Nat) : Prop := ¬ I (A 116) n = 0 ∧ ¬ I (A 117) n ≤ Lat A I n
def Own (A : Nat → Nat) (I : St) (n : Nat) : Prop := ∃ k, k < (I (A 119) n).toNatClampNeg ∧ I (A 120) (60 * n + k) = I (A 113) n
def Rdy (A : Nat → Nat) (I : St) (n : Nat) : Prop := Act A I n ∧ Own A I n
noncomputable def cif {α : Type} (P : Prop) (a b : α) : α := @ite _ P (Classical.propDecidable P) a b
theorem cif_t {α : Type} {P : Prop} {a b : α} (h : P) : cif P a b = a := by unfold cif; exact if_pos h
theorem cif_f {α : Type} {P : Prop} {a b : α} (h : ¬ P) : cif P a b = b := by unfold cif; exact if_neg h
noncomputable def rdy (A : Nat → Nat) (I : St) (q : Nat) : Int32 := cif (Rdy A I (3 * q)) (nI (3 * q)) (cif (Rdy A I (3 * q + 1)) (nI (3 * q + 1)) (cif (Rdy A I (3 * q + 2)) (nI (3 * q + 2)) (-1)))
/-- class and reference hold the same: clock and count of transactions -/
def SC (A : Nat → Nat) (I : St) : Prop := I (A 3) 0 = I (A 110) 0 ∧ I (A 3) 1 = I (A 110) 1 ∧ I (A 0) 3 = I (A 110) 16
/-- a node -/
def SN (A : Nat → Nat) (I : St) (n : Nat) : Prop := I (A (4 + 7 * n)) 0 = nI n ∧ (I (A (4 + 7 * n)) 3 = 0 ↔ ¬ I (A 111) n = 0) ∧ I (A (4 + 7 * n)) 4 = I (A 116) n ∧ I (A (4 + 7 * n)) 5 = I (A 112) n ∧ I (A (4 + 7 * n)) 6 = I (A 113) n ∧ I (A (4 + 7 * n)) 7 = I (A 117) n ∧ I (A (4 + 7 * n)) 8 = I (A 115) n ∧ (I (A (4 + 7 * n)) 9 = I (A 114) n ∨ (I (A 115) n = -1 ∧ I (A (4 + 7 * n)) 9 = 0 ∧ I (A 114) n = -1)) ∧ I (A (5 + 7 * n)) 5 = I (A 118) n ∧ I (A (5 + 7 * n)) 6 = I (A 119) n
/-- a node's log -/
def SL (A : Nat → Nat) (I : St) (n : Nat) : Prop := ∀ k, k < 60 → I (A (6 + 7 * n)) k = I (A 120) (60 * n + k) ∧ I (A (7 + 7 * n)) k = I (A 121) (60 * n + k) ∧ I (A (8 + 7 * n)) k = I (A 122) (60 * n + k) ∧ I (A (9 + 7 * n)) k = I (A 123) (60 * n + k) ∧ I (A (10 + 7 * n)) k = I (A 124) (60 * n + k)
/-- how long the log is, how much of it is known -/
def VN (A : Nat → Nat) (I : St) (n : Nat) : Prop := ∃ ln kn : Nat, I (A 118) n = nI ln ∧ I (A 119) n = nI kn ∧ kn ≤ ln ∧ ln ≤ 60
def SA (A : Nat → Nat) (I : St) : Prop := SC A I ∧ ∀ n, n < 6 → SN A I n ∧ SL A I n ∧ VN A I n
def VA (A : Nat → Nat) (I : St) : Prop := ∀ n, n < 6 → VN A I n
theorem SA.va {A : Nat → Nat} {I : St} (h : SA A I) : VA A I := fun n hn => (h.2 n hn).2.2
variable {R : Nat → Nat → Nat} {A : Nat → Nat} {I : St} {n : Nat}
theorem C_latest (hs : Sx R A) (hn : n < 6) (c : SC A I) (sn : SN A I n) : F_Node_latest R (A (4 + 7 * n)) I = some (Lat A I n) := by
  have RS := hs.all
  obtain ⟨c0, c1, c2⟩ := c
  obtain ⟨s0, s3, s4, s5, s6, s7, s8, s9, l5, l6⟩ := sn
  unfold F_Node_latest Lat
  simp only [RS, hn, c0, c1, s5]
theorem C_earliest (hs : Sx R A) (hn : n < 6) (c : SC A I) (sn : SN A I n) : F_Node_earliest R (A (4 + 7 * n)) I = some (Ear A I n) := by
  have RS := hs.all
  obtain ⟨c0, c1, c2⟩ := c
  obtain ⟨s0, s3, s4, s5, s6, s7, s8, s9, l5, l6⟩ := sn
  unfold F_Node_earliest Ear
  simp only [RS, hn, c0, c1, s5]
theorem C_isActive (hs : Sx R A) (hn : n < 6) (c : SC A I) (sn : SN A I n) : F_Node_isActive R (A (4 + 7 * n)) I = some (bI (Act A I n)) := by
  have e := C_latest hs hn c sn
  obtain ⟨s0, s3, s4, s5, s6, s7, s8, s9, l5, l6⟩ := sn
  unfold F_Node_isActive B_Node_isActive_22
  rw [e, ob_s, s4, s7]
  by_cases h1 : I (A 116) n = 0
  · rw [if_pos h1, bI_f (fun h => h.1 h1)]
  · rw [if_neg h1]
    by_cases h2 : I (A 117) n ≤ Lat A I n
    · rw [if_pos h2, bI_f (fun h => h.2 h2)]
    · rw [if_neg h2, bI_t ⟨h1, h2⟩]
theorem C_knE (hs : Sx R A) (hn : n < 6) {kn : Nat} (hk : kn ≤ 60) (hkn : I (A (5 + 7 * n)) 6 = nI kn) (x : Int32) : ∀ m k f, k + m = kn → m < f → B_Log_knowsEpoch_2 R I f (A (5 + 7 * n)) x (nI k) = some (bI (∃ j, k ≤ j ∧ j < kn ∧ I (A (6 + 7 * n)) j = x)) := by
  have RS := hs.all
  intro m
  induction m with
  | zero =>
    intro k f hkm hf
    obtain ⟨f, rfl⟩ : ∃ g, f = g + 1 := ⟨f - 1, by omega⟩
    unfold B_Log_knowsEpoch_2
    rw [hkn, if_pos (nI_le (by omega) (by omega)), bI_f (fun ⟨j, h1, h2, h3⟩ => by omega)]
  | succ m ih =>
    intro k f hkm hf
    obtain ⟨f, rfl⟩ : ∃ g, f = g + 1 := ⟨f - 1, by omega⟩
    unfold B_Log_knowsEpoch_2
    rw [hkn, if_neg (nI_ge (by omega) (by omega)), chk_nI (by omega) (by omega), nI_clamp (by omega)]
    simp only [RS, hn]
    by_cases hx : I (A (6 + 7 * n)) k = x
    · rw [if_pos hx, bI_t ⟨k, by omega, by omega, hx⟩]
    · rw [if_neg hx, nI_1, ih (k + 1) f (by omega) (by omega)]
      congr 1
      refine bI_c ⟨fun ⟨j, h1, h2, h3⟩ => ⟨j, by omega, h2, h3⟩, fun ⟨j, h1, h2, h3⟩ => ⟨j, ?_, h2, h3⟩⟩
      have : j ≠ k := fun e => hx (e ▸ h3)
      omega
theorem C_knowsEpoch (hs : Sx R A) (hn : n < 6) (sn : SN A I n) (sl : SL A I n) (vn : VN A I n) : F_Log_knowsEpoch R (A (5 + 7 * n)) (I (A 113) n) I = some (bI (Own A I n)) := by
  obtain ⟨s0, s3, s4, s5, s6, s7, s8, s9, l5, l6⟩ := sn
  obtain ⟨ln, kn, v1, v2, v3, v4⟩ := vn
  unfold F_Log_knowsEpoch
  rw [show (0 : Int32) = nI 0 from rfl, C_knE hs hn (kn := kn) (by omega) (by rw [l6]; exact v2) _ kn 0 100 (by omega) (by omega)]
  congr 1
  unfold Own
  rw [v2, nI_clamp (by omega)]
  refine bI_c ⟨fun ⟨j, h1, h2, h3⟩ => ⟨j, h2, by rw [← (sl j (by omega)).1]; exact h3⟩, fun ⟨j, h2, h3⟩ => ⟨j, by omega, h2, by rw [(sl j (by omega)).1]; exact h3⟩⟩
theorem C_readyNode (hs : Sx R A) (sa : SA A I) {q : Nat} (hq : q < 2) : F_Store_readyNode R (A 0) (nI q) I = some (rdy A I q) := by
  have RS := hs.all
  obtain ⟨c, sa⟩ := sa
  have step : ∀ (n f : Nat), n < 6 → n < 3 * q + 3 → B_Store_readyNode_6 R I (f + 1) (A 0) (nI (3 * q)) (nI n) = cif (Rdy A I n) (some (nI n)) (B_Store_readyNode_6 R I f (A 0) (nI (3 * q)) (nI (n + 1))) := by
    intro n f hn hn3
    obtain ⟨sn, sl, vn⟩ := sa n hn
    have s6 := sn.2.2.2.2.1
    rw [B_Store_readyNode_6]
    unfold B_Store_readyNode_51
    rw [np3, if_neg (nI_ge (by omega) (by omega)), chk_nI hn (by omega), chk_nI hn (by omega), chk_nI hn (by omega), nI_clamp (by omega), nI_1]
    simp only [RS, hn]
    rw [C_isActive hs hn c sn, ob_s, s6, C_knowsEpoch hs hn sn sl vn, ob_s, bI_if, bI_if]
    by_cases h1 : Act A I n
    · rw [if_pos h1]
      by_cases h2 : Own A I n
      · rw [if_pos h2, cif_t ⟨h1, h2⟩]
      · rw [if_neg h2, cif_f (fun h => h2 h.2)]
    · rw [if_neg h1, cif_f (fun h => h1 h.1)]
  unfold F_Store_readyNode
  rw [n3', step (3 * q) 99 (by omega) (by omega), step (3 * q + 1) 98 (by omega) (by omega), step (3 * q + 2) 97 (by omega) (by omega)]
  have last : B_Store_readyNode_6 R I 97 (A 0) (nI (3 * q)) (nI (3 * q + 2 + 1)) = some (-1) := by
    rw [B_Store_readyNode_6, np3, if_pos (nI_le (by omega) (by omega))]
  rw [last]
  unfold rdy
  by_cases h1 : Rdy A I (3 * q)
  · rw [cif_t h1, cif_t h1]
  · rw [cif_f h1, cif_f h1]
    by_cases h2 : Rdy A I (3 * q + 1)
    · rw [cif_t h2, cif_t h2]
    · rw [cif_f h2, cif_f h2]
      by_cases h3 : Rdy A I (3 * q + 2)
      · rw [cif_t h3, cif_t h3]
      · rw [cif_f h3, cif_f h3]
theorem M_latest (hs : Sx R A) (hn : n < 6) : F_Model_latest R (A 110) (nI n) I = some (Lat A I n) := by
  have RS := hs.all
  unfold F_Model_latest Lat
  rw [chk_nI hn (by omega), nI_clamp (by omega)]
  simp only [RS]
theorem M_earliest (hs : Sx R A) (hn : n < 6) : F_Model_earliest R (A 110) (nI n) I = some (Ear A I n) := by
  have RS := hs.all
  unfold F_Model_earliest Ear
  rw [chk_nI hn (by omega), nI_clamp (by omega)]
  simp only [RS]
theorem M_isActive (hs : Sx R A) (hn : n < 6) : F_Model_isActive R (A 110) (nI n) I = some (bI (Act A I n)) := by
  have RS := hs.all
  unfold F_Model_isActive B_Model_isActive_27
  rw [M_latest hs hn, ob_s, chk_nI hn (by omega), chk_nI hn (by omega), nI_clamp (by omega)]
  simp only [RS]
  by_cases h1 : I (A 116) n = 0
  · rw [if_pos h1, bI_f (fun h => h.1 h1)]
  · rw [if_neg h1]
    by_cases h2 : I (A 117) n ≤ Lat A I n
    · rw [if_pos h2, bI_f (fun h => h.2 h2)]
    · rw [if_neg h2, bI_t ⟨h1, h2⟩]
theorem M_isR (hs : Sx R A) (hn : n < 6) {kn : Nat} (hk : kn ≤ 60) (hkn : I (A 119) n = nI kn) : ∀ m k f (P : Prop), k + m = kn → m < f → B_Model_isReady_4 R I f (A 110) (nI n) (bI P) (nI k) = some (bI (Act A I n ∧ (P ∨ ∃ j, k ≤ j ∧ j < kn ∧ I (A 120) (60 * n + j) = I (A 113) n))) := by
  have RS := hs.all
  intro m
  induction m with
  | zero =>
    intro k f P hkm hf
    obtain ⟨f, rfl⟩ : ∃ g, f = g + 1 := ⟨f - 1, by omega⟩
    rw [B_Model_isReady_4]
    unfold B_Model_isReady_66
    rw [chk_nI hn (by omega), nI_clamp (by omega), M_isActive hs hn, ob_s]
    simp only [RS]
    rw [hkn, if_pos (nI_le (by omega) (by omega)), bI_if, bI_if]
    by_cases hP : P
    · rw [if_pos hP]
      by_cases hA : Act A I n
      · rw [if_pos hA, bI_t ⟨hA, Or.inl hP⟩]
      · rw [if_neg hA, bI_f (fun h => hA h.1)]
    · rw [if_neg hP, bI_f (fun h => h.2.elim hP (fun ⟨j, h1, h2, h3⟩ => by omega))]
  | succ m ih =>
    intro k f P hkm hf
    obtain ⟨f, rfl⟩ : ∃ g, f = g + 1 := ⟨f - 1, by omega⟩
    rw [B_Model_isReady_4]
    unfold B_Model_isReady_38 B_Model_isReady_43
    rw [chk_nI hn (by omega), nI_clamp (by omega), n60, chk_nI (by omega) (by omega), chk_nI hn (by omega), nI_clamp (n := 60 * n + k) (by omega)]
    simp only [RS]
    rw [hkn, if_neg (nI_ge (by omega) (by omega)), bI_if, nI_1, show (1 : Int32) = bI True from (bI_t trivial).symm, show (0 : Int32) = bI False from (bI_f (fun h => h)).symm, ih (k + 1) f _ (by omega) (by omega), ih (k + 1) f _ (by omega) (by omega)]
    by_cases hP : P
    · rw [if_pos hP]
      congr 1
      exact bI_c ⟨fun h => ⟨h.1, Or.inl hP⟩, fun h => ⟨h.1, Or.inl trivial⟩⟩
    · rw [if_neg hP]
      by_cases hx : I (A 120) (60 * n + k) = I (A 113) n
      · rw [if_pos hx]
        congr 1
        exact bI_c ⟨fun h => ⟨h.1, Or.inr ⟨k, by omega, by omega, hx⟩⟩, fun h => ⟨h.1, Or.inl trivial⟩⟩
      · rw [if_neg hx]
        congr 1
        refine bI_c ⟨fun h => ⟨h.1, Or.inr (h.2.elim (fun e => e.elim) (fun ⟨j, h1, h2, h3⟩ => ⟨j, by omega, h2, h3⟩))⟩, fun h => ⟨h.1, Or.inr (h.2.elim (fun e => absurd e hP) (fun ⟨j, h1, h2, h3⟩ => ⟨j, ?_, h2, h3⟩))⟩⟩
        have : j ≠ k := fun e => hx (e ▸ h3)
        omega
theorem M_isReady (hs : Sx R A) (hn : n < 6) (vn : VN A I n) : F_Model_isReady R (A 110) (nI n) I = some (bI (Rdy A I n)) := by
  obtain ⟨ln, kn, v1, v2, v3, v4⟩ := vn
  unfold F_Model_isReady
  have e := M_isR hs hn (kn := kn) (I := I) (by omega) v2 kn 0 100 False (by omega) (by omega)
  rw [bI_f (fun h => h)] at e
  rw [show nI 0 = (0 : Int32) from rfl] at e
  rw [e]
  congr 1
  unfold Rdy Own
  rw [v2, nI_clamp (by omega)]
  exact bI_c ⟨fun h => ⟨h.1, h.2.elim (fun e => e.elim) (fun ⟨j, h1, h2, h3⟩ => ⟨j, h2, h3⟩)⟩, fun h => ⟨h.1, Or.inr (h.2.elim fun j hj => ⟨j, by omega, hj.1, hj.2⟩)⟩⟩
theorem M_ready (hs : Sx R A) (sa : VA A I) {q : Nat} (hq : q < 2) : F_Model_ready R (A 110) (nI q) I = some (rdy A I q) := by
  have step : ∀ (n f : Nat), n < 6 → n < 3 * q + 3 → B_Model_ready_4 R I (f + 1) (A 110) (nI q) (nI n) = cif (Rdy A I n) (some (nI n)) (B_Model_ready_4 R I f (A 110) (nI q) (nI (n + 1))) := by
    intro n f hn hn3
    have vn := sa n hn
    rw [B_Model_ready_4, n3, np3, if_neg (nI_ge (by omega) (by omega)), M_isReady hs hn vn, ob_s, bI_if, nI_1]
    by_cases h1 : Rdy A I n
    · rw [if_pos h1, cif_t h1]
    · rw [if_neg h1, cif_f h1]
  unfold F_Model_ready
  rw [n3, step (3 * q) 99 (by omega) (by omega), step (3 * q + 1) 98 (by omega) (by omega), step (3 * q + 2) 97 (by omega) (by omega)]
  have last : B_Model_ready_4 R I 97 (A 110) (nI q) (nI (3 * q + 2 + 1)) = some (-1) := by
    rw [B_Model_ready_4, n3, np3, if_pos (nI_le (by omega) (by omega))]
  rw [last]
  unfold rdy
  by_cases h1 : Rdy A I (3 * q)
  · rw [cif_t h1, cif_t h1]
  · rw [cif_f h1, cif_f h1]
    by_cases h2 : Rdy A I (3 * q + 1)
    · rw [cif_t h2, cif_t h2]
    · rw [cif_f h2, cif_f h2]
      by_cases h3 : Rdy A I (3 * q + 2)
      · rw [cif_t h3, cif_t h3]
      · rw [cif_f h3, cif_f h3]
end
