section
def bt (x : Int32) (i : Nat) : Bool := x.toBitVec.getLsbD i
theorem b_ext {x y : Int32} (h : ∀ i, i < 32 → bt x i = bt y i) : x = y := Int32.toBitVec_inj.mp (BitVec.eq_of_getLsbD_eq (fun i hi => h i hi))
theorem b_or (x y : Int32) (i : Nat) : bt (x ||| y) i = (bt x i || bt y i) := by unfold bt; rw [Int32.toBitVec_or, BitVec.getLsbD_or]
theorem b_and (x y : Int32) (i : Nat) : bt (x &&& y) i = (bt x i && bt y i) := by unfold bt; rw [Int32.toBitVec_and, BitVec.getLsbD_and]
theorem b_big {x : Int32} {i : Nat} (h : 32 ≤ i) : bt x i = false := BitVec.getLsbD_of_ge _ _ h
theorem b_0 (i : Nat) : bt 0 i = false := BitVec.getLsbD_zero
theorem s_l : ∀ n, n < 32 → ((nI n &&& 31).toBitVec.smod 32).toNat = n := by decide +kernel
theorem b_shl (n : Nat) (hn : n < 32) (x : Int32) {i : Nat} (hi : i < 32) : bt (x <<< (nI n &&& 31)) i = (decide (n ≤ i) && bt x (i - n)) := by
  unfold bt
  rw [Int32.toBitVec_shiftLeft]
  show (x.toBitVec <<< ((nI n &&& 31).toBitVec.smod 32).toNat).getLsbD i = _
  rw [s_l n hn, BitVec.getLsbD_shiftLeft]
  rcases Nat.lt_or_ge i n with h | h
  · simp [h, Nat.not_le.mpr h]
  · simp [hi, h, Nat.not_lt.mpr h]
theorem b_sshr (n : Nat) (hn : n < 32) (x : Int32) {i : Nat} (hi : i < 32) : bt (x >>> (nI n &&& 31)) i = if n + i < 32 then bt x (n + i) else bt x 31 := by
  unfold bt
  rw [Int32.toBitVec_shiftRight]
  show (x.toBitVec.sshiftRight ((nI n &&& 31).toBitVec.smod 32).toNat).getLsbD i = _
  rw [s_l n hn, BitVec.getLsbD_sshiftRight, BitVec.msb_eq_getLsbD_last]
  simp [hi]
theorem b_1 : ∀ i, i < 32 → bt 1 i = decide (i = 0) := by decide +kernel
theorem b_15 : ∀ i, i < 32 → bt 15 i = decide (i < 4) := by decide +kernel
theorem bk (x : Int32) {k : Nat} (hk : k < 32) : ((x >>> (nI k &&& 31)) &&& 1 = 1) ↔ bt x k = true := by
  have h0 : bt ((x >>> (nI k &&& 31)) &&& 1) 0 = bt x k := by
    rw [b_and, b_sshr k hk x (by omega), if_pos (by omega), b_1 0 (by omega)]
    simp
  constructor
  · intro h
    rw [h] at h0
    rw [← h0]
    decide
  · intro h
    apply b_ext
    intro i hi
    by_cases hi0 : i = 0
    · subst hi0
      rw [h0, h]
      decide
    · rw [b_and, b_1 i hi]
      simp [hi0]
theorem b4 (g : Nat) : (4 : Int32) * nI g = nI (4 * g) := by rw [show (4 : Int32) = nI 4 from rfl, pk_mul]
theorem b4' (g : Nat) : nI g * (4 : Int32) = nI (4 * g) := by rw [show (4 : Int32) = nI 4 from rfl, pk_mul, Nat.mul_comm]
theorem bm {g i : Nat} (hg : g < 2) (hi : i < 32) : bt ((15 : Int32) <<< (((4 : Int32) * nI g) &&& 31)) i = (decide (4 * g ≤ i) && decide (i < 4 * g + 4)) := by
  rw [b4, b_shl (4 * g) (by omega) _ hi]
  by_cases h : 4 * g ≤ i
  · rw [b_15 _ (by omega)]
    congr 1
    exact decide_eq_decide.mpr (by omega)
  · simp [h]
theorem bg (x : Int32) {g : Nat} (hg : g < 2) : (x &&& ((15 : Int32) <<< (((4 : Int32) * nI g) &&& 31)) = 0) ↔ ¬ ∃ k, 4 * g ≤ k ∧ k < 4 * g + 4 ∧ bt x k = true := by
  constructor
  · rintro h ⟨k, h1, h2, h3⟩
    have e : bt (x &&& ((15 : Int32) <<< (((4 : Int32) * nI g) &&& 31))) k = true := by
      rw [b_and, bm hg (by omega), h3]
      simp [h1, h2]
    rw [h, b_0] at e
    cases e
  · intro h
    apply b_ext
    intro i hi
    rw [b_and, bm hg hi, b_0]
    by_cases hx : bt x i = true
    · by_cases h1 : 4 * g ≤ i
      · by_cases h2 : i < 4 * g + 4
        · exact absurd ⟨i, h1, h2, hx⟩ h
        · simp [h2]
      · simp [h1]
    · simp [hx]
theorem bs (x : Int32) {k j : Nat} (hk : k < 32) (hj : j < 32) : bt (x ||| ((1 : Int32) <<< (nI k &&& 31))) j = (bt x j || decide (j = k)) := by
  rw [b_or, b_shl k hk _ hj]
  congr 1
  by_cases h : k ≤ j
  · rw [b_1 _ (by omega)]
    simp only [h, decide_true, Bool.true_and]
    exact decide_eq_decide.mpr (by omega)
  · simp only [h, decide_false, Bool.false_and]
    exact (decide_eq_false (by omega)).symm
end
section
def RdG (A : Nat → Nat) (I : St) (t g : Nat) : Prop := ∃ k, 4 * g ≤ k ∧ k < 4 * g + 4 ∧ bt (I (A 126) t) k = true
def WrG (A : Nat → Nat) (I : St) (t g : Nat) : Prop := ∃ k, 4 * g ≤ k ∧ k < 4 * g + 4 ∧ bt (I (A 127) t) k = true
def Us (A : Nat → Nat) (I : St) (t g : Nat) : Prop := RdG A I t g ∨ WrG A I t g
def HoM (A : Nat → Nat) (I : St) (t g : Nat) : Prop := ∃ n, n < 6 ∧ rdy A I g = nI n ∧ I (A 113) n = I (A 129) (2 * t + g)
def Lst (A : Nat → Nat) (I : St) (t g : Nat) : Prop := RdG A I t g ∧ ¬ HoM A I t g
/-- a transaction -/
def SX (A : Nat → Nat) (I : St) (t : Nat) : Prop := I (A (46 + 4 * t)) 3 = I (A 125) t ∧ I (A (46 + 4 * t)) 4 = I (A 130) t ∧ (∀ k, k < 8 → (I (A (47 + 4 * t)) k = 0 ↔ bt (I (A 126) t) k = false) ∧ (I (A (48 + 4 * t)) k = -1 ↔ bt (I (A 127) t) k = false) ∧ (bt (I (A 127) t) k = true → I (A (48 + 4 * t)) k = I (A 128) (8 * t + k))) ∧ (∀ g, g < 2 → (I (A (49 + 4 * t)) g = -1 ↔ ¬ RdG A I t g) ∧ (RdG A I t g → I (A (49 + 4 * t)) g = I (A 129) (2 * t + g)))
/-- a transaction's writes alone -/
def SW (A : Nat → Nat) (I : St) (t : Nat) : Prop := ∀ k, k < 8 → (I (A (48 + 4 * t)) k = -1 ↔ bt (I (A 127) t) k = false) ∧ (bt (I (A 127) t) k = true → I (A (48 + 4 * t)) k = I (A 128) (8 * t + k))
theorem SX.w {A : Nat → Nat} {I : St} {t : Nat} (h : SX A I t) : SW A I t := fun k hk => ⟨(h.2.2.1 k hk).2.1, (h.2.2.1 k hk).2.2⟩
variable {R : Nat → Nat → Nat} {A : Nat → Nat} {I : St} {t : Nat}
theorem rdy_c (A : Nat → Nat) (I : St) {q : Nat} (hq : q < 2) : (rdy A I q = -1 ∧ ∀ n, n / 3 = q → ¬ Rdy A I n) ∨ ∃ n, n / 3 = q ∧ n < 6 ∧ rdy A I q = nI n ∧ Rdy A I n := by
  unfold rdy
  by_cases h1 : Rdy A I (3 * q)
  · rw [cif_t h1]; exact Or.inr ⟨3 * q, by omega, by omega, rfl, h1⟩
  · rw [cif_f h1]
    by_cases h2 : Rdy A I (3 * q + 1)
    · rw [cif_t h2]; exact Or.inr ⟨3 * q + 1, by omega, by omega, rfl, h2⟩
    · rw [cif_f h2]
      by_cases h3 : Rdy A I (3 * q + 2)
      · rw [cif_t h3]; exact Or.inr ⟨3 * q + 2, by omega, by omega, rfl, h3⟩
      · rw [cif_f h3]
        refine Or.inl ⟨rfl, fun n hn => ?_⟩
        rcases (show n = 3 * q ∨ n = 3 * q + 1 ∨ n = 3 * q + 2 by omega) with rfl | rfl | rfl <;> assumption
theorem nI_nm1 {n : Nat} (h : n < 2 ^ 31) : ¬ nI n = -1 := fun e => by have := nI_pos h; rw [e] at this; exact this (by decide)
theorem nI_inj {a b : Nat} (ha : a < 2 ^ 31) (hb : b < 2 ^ 31) (h : nI a = nI b) : a = b := (nI_eq ha hb).mp h
theorem C_writes (hs : Sx R A) (ht : t < 16) (sx : SW A I t) {k : Nat} (hk : k < 8) : F_Txn_writes R (A (46 + 4 * t)) (nI k) I = some (bI (bt (I (A 127) t) k = true)) := by
  have RS := hs.all
  unfold F_Txn_writes
  rw [chk_nI hk (by omega), nI_clamp (by omega)]
  simp only [RS, ht]
  obtain ⟨h2, -⟩ := sx k hk
  by_cases h : I (A (48 + 4 * t)) k = -1
  · rw [if_pos h, bI_f (fun e => by rw [h2.mp h] at e; cases e)]
  · rw [if_neg h, bI_t (by cases e : bt (I (A 127) t) k with | true => rfl | false => exact absurd (h2.mpr e) h)]
theorem C_wi (hs : Sx R A) (ht : t < 16) (sx : SW A I t) {g : Nat} (hg : g < 2) : ∀ m k f, k + m = 4 * g + 4 → m < f → B_Txn_writesIn_6 R I f (A (46 + 4 * t)) (nI (4 * g)) (nI k) = some (bI (∃ j, k ≤ j ∧ j < 4 * g + 4 ∧ bt (I (A 127) t) j = true)) := by
  intro m
  induction m with
  | zero =>
    intro k f hkm hf
    obtain ⟨f, rfl⟩ : ∃ g, f = g + 1 := ⟨f - 1, by omega⟩
    rw [B_Txn_writesIn_6, show (4 : Int32) = nI 4 from rfl, nI_add, if_pos (nI_le (by omega) (by omega)), bI_f (fun ⟨j, h1, h2, h3⟩ => by omega)]
  | succ m ih =>
    intro k f hkm hf
    obtain ⟨f, rfl⟩ : ∃ g, f = g + 1 := ⟨f - 1, by omega⟩
    rw [B_Txn_writesIn_6, show (4 : Int32) = nI 4 from rfl, nI_add, if_neg (nI_ge (by omega) (by omega)), C_writes hs ht sx (by omega), ob_s, bI_if, nI_1, ih (k + 1) f (by omega) (by omega)]
    by_cases hx : bt (I (A 127) t) k = true
    · rw [if_pos hx, bI_t ⟨k, by omega, by omega, hx⟩]
    · rw [if_neg hx]
      congr 1
      refine bI_c ⟨fun ⟨j, h1, h2, h3⟩ => ⟨j, by omega, h2, h3⟩, fun ⟨j, h1, h2, h3⟩ => ⟨j, ?_, h2, h3⟩⟩
      have : j ≠ k := fun e => hx (e ▸ h3)
      omega
theorem C_writesIn (hs : Sx R A) (ht : t < 16) (sx : SW A I t) {g : Nat} (hg : g < 2) : F_Txn_writesIn R (A (46 + 4 * t)) (nI g) I = some (bI (WrG A I t g)) := by
  unfold F_Txn_writesIn
  rw [b4', C_wi hs ht sx hg 4 (4 * g) 100 (by omega) (by omega)]
  rfl
theorem C_hasReadIn (hs : Sx R A) (ht : t < 16) (sx : SX A I t) {g : Nat} (hg : g < 2) : F_Txn_hasReadIn R (A (46 + 4 * t)) (nI g) I = some (bI (RdG A I t g)) := by
  have RS := hs.all
  unfold F_Txn_hasReadIn
  rw [chk_nI hg (by omega), nI_clamp (by omega)]
  simp only [RS, ht]
  obtain ⟨h1, -⟩ := sx.2.2.2 g hg
  by_cases h : I (A (49 + 4 * t)) g = -1
  · rw [if_pos h, bI_f (h1.mp h)]
  · rw [if_neg h, bI_t (Classical.byContradiction fun e => h (h1.mpr e))]
theorem C_usesGroup (hs : Sx R A) (ht : t < 16) (sx : SX A I t) {g : Nat} (hg : g < 2) : F_Txn_usesGroup R (A (46 + 4 * t)) (nI g) I = some (bI (Us A I t g)) := by
  unfold F_Txn_usesGroup B_Txn_usesGroup_16
  rw [C_hasReadIn hs ht sx hg, C_writesIn hs ht sx.w hg, ob_s, ob_s, bI_if, bI_if]
  by_cases h1 : RdG A I t g
  · rw [if_pos h1, bI_t (P := Us A I t g) (Or.inl h1)]
  · rw [if_neg h1]
    by_cases h2 : WrG A I t g
    · rw [if_pos h2, bI_t (P := Us A I t g) (Or.inr h2)]
    · rw [if_neg h2, bI_f (fun h => h.elim h1 h2)]
theorem C_usesBoth (hs : Sx R A) (ht : t < 16) (sx : SX A I t) : F_Txn_usesBothGroups R (A (46 + 4 * t)) I = some (bI (Us A I t 0 ∧ Us A I t 1)) := by
  unfold F_Txn_usesBothGroups B_Txn_usesBothGroups_20
  have e0 := C_usesGroup hs ht sx (g := 0) (by omega)
  have e1 := C_usesGroup hs ht sx (g := 1) (by omega)
  rw [show nI 0 = (0 : Int32) from rfl] at e0
  rw [show nI 1 = (1 : Int32) from rfl] at e1
  rw [e0, e1, ob_s, ob_s, bI_if, bI_if]
  by_cases h1 : Us A I t 0
  · rw [if_pos h1]
    by_cases h2 : Us A I t 1
    · rw [if_pos h2, bI_t ⟨h1, h2⟩]
    · rw [if_neg h2, bI_f (fun h => h2 h.2)]
  · rw [if_neg h1, bI_f (fun h => h1 h.1)]
theorem C_holdsReads (hs : Sx R A) (sa : SA A I) (ht : t < 16) (sx : SX A I t) {g : Nat} (hg : g < 2) (hr : RdG A I t g) : F_Store_holdsReads R (A 0) (A (46 + 4 * t)) (nI g) I = some (bI (HoM A I t g)) := by
  have RS := hs.all
  unfold F_Store_holdsReads B_Store_holdsReads_33
  rw [C_readyNode hs sa hg, ob_s]
  have e := (sx.2.2.2 g hg).2 hr
  rcases rdy_c A I hg with ⟨h1, h2⟩ | ⟨n, h1, h2, h3, h4⟩
  · rw [h1, if_pos rfl, bI_f]
    rintro ⟨n, h3, h4, h5⟩
    rw [h1] at h4
    exact nI_nm1 (by omega) h4.symm
  · rw [h3, if_neg (nI_nm1 (by omega)), chk_nI h2 (by omega), chk_nI hg (by omega), nI_clamp (by omega), nI_clamp (by omega)]
    simp only [RS, h2, ht]
    rw [((sa.2 n h2).1).2.2.2.2.1, e]
    by_cases h5 : I (A 113) n = I (A 129) (2 * t + g)
    · rw [if_pos h5, bI_t ⟨n, h2, h3, h5⟩]
    · rw [if_neg h5, bI_f]
      rintro ⟨n', q1, q2, q3⟩
      rw [h3] at q2
      have := nI_inj (by omega) (by omega) q2
      subst this
      exact h5 q3
theorem C_lost (hs : Sx R A) (sa : SA A I) (ht : t < 16) (sx : SX A I t) {g : Nat} (hg : g < 2) : F_Store_hasLostReads R (A 0) (A (46 + 4 * t)) (nI g) I = some (bI (Lst A I t g)) := by
  unfold F_Store_hasLostReads B_Store_hasLostReads_21
  rw [C_hasReadIn hs ht sx hg, ob_s, bI_if]
  by_cases h1 : RdG A I t g
  · rw [if_pos h1, C_holdsReads hs sa ht sx hg h1, ob_s, bI_if]
    by_cases h2 : HoM A I t g
    · rw [if_pos h2, bI_f (fun h => h.2 h2)]
    · rw [if_neg h2, bI_t ⟨h1, h2⟩]
  · rw [if_neg h1, bI_f (fun h => h1 h.1)]
theorem M_touches (hs : Sx R A) (ht : t < 16) {g : Nat} (hg : g < 2) : F_Model_touches R (A 110) (nI t) (nI g) I = some (bI (Us A I t g)) := by
  have RS := hs.all
  unfold F_Model_touches F_Model_bits
  rw [chk_nI ht (by omega), chk_nI ht (by omega), nI_clamp (by omega), ob_s]
  simp only [RS]
  by_cases h : (I (A 126) t ||| I (A 127) t) &&& ((15 : Int32) <<< (((4 : Int32) * nI g) &&& 31)) = 0
  · rw [if_pos h, bI_f]
    rintro (⟨k, h1, h2, h3⟩ | ⟨k, h1, h2, h3⟩) <;> exact (bg _ hg).mp h ⟨k, h1, h2, by rw [b_or, h3]; simp⟩
  · rw [if_neg h, bI_t]
    obtain ⟨k, h1, h2, h3⟩ := Classical.byContradiction fun e => h ((bg _ hg).mpr e)
    rw [b_or, Bool.or_eq_true] at h3
    exact h3.elim (fun e => Or.inl ⟨k, h1, h2, e⟩) (fun e => Or.inr ⟨k, h1, h2, e⟩)
theorem M_rd (ht : t < 16) {g : Nat} (hg : g < 2) : (I (A 126) t &&& ((15 : Int32) <<< (((4 : Int32) * nI g) &&& 31)) = 0) ↔ ¬ RdG A I t g := bg _ hg
theorem n2 (t g : Nat) : (2 : Int32) * nI t + nI g = nI (2 * t + g) := by rw [show (2 : Int32) = nI 2 from rfl, pk_mul, nI_add]
theorem M_holds (hs : Sx R A) (sa : VA A I) (ht : t < 16) {g : Nat} (hg : g < 2) : F_Model_holds R (A 110) (nI t) (nI g) I = some (bI (RdG A I t g ∧ HoM A I t g)) := by
  have RS := hs.all
  unfold F_Model_holds F_Model_bits B_Model_holds_47
  rw [M_ready hs sa hg, ob_s, chk_nI ht (by omega), nI_clamp (by omega), ob_s]
  simp only [RS]
  by_cases h : I (A 126) t &&& ((15 : Int32) <<< (((4 : Int32) * nI g) &&& 31)) = 0
  · rw [if_pos h, bI_f (fun e => (M_rd ht hg).mp h e.1)]
  · rw [if_neg h]
    have hr : RdG A I t g := Classical.byContradiction fun e => h ((M_rd ht hg).mpr e)
    rcases rdy_c A I hg with ⟨h1, h2⟩ | ⟨n, h1, h2, h3, h4⟩
    · rw [h1, if_pos (by decide), bI_f]
      rintro ⟨-, n, h3, h4, h5⟩
      rw [h1] at h4
      exact nI_nm1 (by omega) h4.symm
    · rw [h3, if_neg (nI_pos (by omega)), chk_nI h2 (by omega), n2, chk_nI (by omega) (by omega), nI_clamp (by omega), nI_clamp (by omega)]
      by_cases h5 : I (A 113) n = I (A 129) (2 * t + g)
      · rw [if_pos h5, bI_t ⟨hr, n, h2, h3, h5⟩]
      · rw [if_neg h5, bI_f]
        rintro ⟨-, n', q1, q2, q3⟩
        rw [h3] at q2
        have := nI_inj (by omega) (by omega) q2
        subst this
        exact h5 q3
theorem M_lost (hs : Sx R A) (sa : VA A I) (ht : t < 16) {g : Nat} (hg : g < 2) : F_Model_lost R (A 110) (nI t) (nI g) I = some (bI (Lst A I t g)) := by
  have RS := hs.all
  unfold F_Model_lost F_Model_bits B_Model_lost_27
  rw [M_holds hs sa ht hg, chk_nI ht (by omega), nI_clamp (by omega), ob_s, ob_s, bI_if]
  simp only [RS]
  by_cases h : I (A 126) t &&& ((15 : Int32) <<< (((4 : Int32) * nI g) &&& 31)) = 0
  · rw [if_pos h, bI_f (fun e => (M_rd ht hg).mp h e.1)]
  · rw [if_neg h]
    have hr : RdG A I t g := Classical.byContradiction fun e => h ((M_rd ht hg).mpr e)
    by_cases h2 : HoM A I t g
    · rw [if_pos ⟨hr, h2⟩, bI_f (fun e => e.2 h2)]
    · rw [if_neg (fun e => h2 e.2), bI_t ⟨hr, h2⟩]
end
