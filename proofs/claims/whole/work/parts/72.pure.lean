section
/-- entry j of n's log is of the kind w and of the transaction o -/
def Mt (A : Nat → Nat) (I : St) (n : Nat) (w o : Int32) (j : Nat) : Prop := I (A 122) (60 * n + j) = w ∧ I (A 123) (60 * n + j) = o
def HasE (A : Nat → Nat) (I : St) (n : Nat) (w o : Int32) : Prop := ∃ j, j < (I (A 118) n).toNatClampNeg ∧ Mt A I n w o j
def KnsE (A : Nat → Nat) (I : St) (n : Nat) (w o : Int32) : Prop := ∃ j, j < (I (A 119) n).toNatClampNeg ∧ Mt A I n w o j
def Hold (A : Nat → Nat) (I : St) (n : Nat) (o : Int32) : Prop := (HasE A I n 1 o ∧ ¬ (KnsE A I n 2 o ∨ KnsE A I n 3 o)) ∨ (HasE A I n 2 o ∧ ¬ KnsE A I n 2 o)
variable {R : Nat → Nat → Nat} {A : Nat → Nat} {I : St} {n : Nat}
theorem C_fi (hs : Sx R A) (hn : n < 6) (sl : SL A I n) {ln : Nat} (hk : ln ≤ 60) (hln : I (A (5 + 7 * n)) 5 = nI ln) (w o : Int32) : ∀ m k f, k + m = ln → m < f → (∀ j, j < k → ¬ Mt A I n w o j) → ∃ r, B_Log_find_2 R I f (A (5 + 7 * n)) w o (nI k) = some r ∧ ((r = -1 ∧ ∀ j, j < ln → ¬ Mt A I n w o j) ∨ ∃ p, p < ln ∧ r = nI p ∧ Mt A I n w o p ∧ ∀ j, j < p → ¬ Mt A I n w o j) := by
  have RS := hs.all
  intro m
  induction m with
  | zero =>
    intro k f hkm hf hj
    obtain ⟨f, rfl⟩ : ∃ g, f = g + 1 := ⟨f - 1, by omega⟩
    refine ⟨-1, ?_, Or.inl ⟨rfl, fun j h => hj j (by omega)⟩⟩
    rw [B_Log_find_2, hln, if_pos (nI_le (by omega) (by omega))]
  | succ m ih =>
    intro k f hkm hf hj
    obtain ⟨f, rfl⟩ : ∃ g, f = g + 1 := ⟨f - 1, by omega⟩
    obtain ⟨-, -, e2, e3, -⟩ := sl k (by omega)
    rw [B_Log_find_2]
    unfold B_Log_find_32
    rw [hln, if_neg (nI_ge (by omega) (by omega)), chk_nI (by omega) (by omega), chk_nI (by omega) (by omega), nI_clamp (by omega), nI_1]
    simp only [RS, hn, e2, e3]
    by_cases h1 : I (A 122) (60 * n + k) = w
    · rw [if_pos h1]
      by_cases h2 : I (A 123) (60 * n + k) = o
      · rw [if_pos h2]
        exact ⟨nI k, rfl, Or.inr ⟨k, by omega, rfl, ⟨h1, h2⟩, hj⟩⟩
      · rw [if_neg h2]
        refine ih (k + 1) f (by omega) (by omega) (fun j h => ?_)
        by_cases e : j = k
        · subst e; exact fun q => h2 q.2
        · exact hj j (by omega)
    · rw [if_neg h1]
      refine ih (k + 1) f (by omega) (by omega) (fun j h => ?_)
      by_cases e : j = k
      · subst e; exact fun q => h1 q.1
      · exact hj j (by omega)
theorem C_find (hs : Sx R A) (hn : n < 6) (sn : SN A I n) (sl : SL A I n) (vn : VN A I n) (w o : Int32) : ∃ r, F_Log_find R (A (5 + 7 * n)) w o I = some r ∧ ((r = -1 ∧ ¬ HasE A I n w o) ∨ ∃ p, p < (I (A 118) n).toNatClampNeg ∧ r = nI p ∧ Mt A I n w o p ∧ ∀ j, j < p → ¬ Mt A I n w o j) := by
  obtain ⟨ln, kn, v1, v2, v3, v4⟩ := vn
  have hl := sn.2.2.2.2.2.2.2.2.1
  obtain ⟨r, e, h⟩ := C_fi hs hn sl (ln := ln) v4 (by rw [hl]; exact v1) w o ln 0 100 (by omega) (by omega) (fun j h => by omega)
  refine ⟨r, by unfold F_Log_find; exact e, ?_⟩
  unfold HasE
  rw [v1, nI_clamp (by omega)]
  exact h.elim (fun h => Or.inl ⟨h.1, fun ⟨j, h1, h2⟩ => h.2 j h1 h2⟩) Or.inr
theorem C_has (hs : Sx R A) (hn : n < 6) (sn : SN A I n) (sl : SL A I n) (vn : VN A I n) (w o : Int32) : F_Log_has R (A (5 + 7 * n)) w o I = some (bI (HasE A I n w o)) := by
  obtain ⟨r, e, h⟩ := C_find hs hn sn sl vn w o
  obtain ⟨ln, kn, v1, v2, v3, v4⟩ := vn
  unfold F_Log_has
  rw [e, ob_s]
  rcases h with ⟨rfl, h⟩ | ⟨p, h1, rfl, h2, h3⟩
  · rw [if_pos rfl, bI_f h]
  · rw [v1, nI_clamp (by omega)] at h1
    rw [if_neg (fun e => by have := nI_pos (n := p) (by omega); rw [e] at this; exact this (by decide)), bI_t ⟨p, by rw [v1, nI_clamp (by omega)]; exact h1, h2⟩]
theorem C_knows (hs : Sx R A) (hn : n < 6) (sn : SN A I n) (sl : SL A I n) (vn : VN A I n) (w o : Int32) : F_Log_knows R (A (5 + 7 * n)) w o I = some (bI (KnsE A I n w o)) := by
  obtain ⟨r, e, h⟩ := C_find hs hn sn sl vn w o
  obtain ⟨ln, kn, v1, v2, v3, v4⟩ := vn
  have hl := sn.2.2.2.2.2.2.2.2.2
  unfold F_Log_knows B_Log_knows_24
  rw [e, ob_s, hl, v2]
  unfold KnsE
  rw [v2, nI_clamp (by omega)]
  rcases h with ⟨rfl, h⟩ | ⟨p, h1, rfl, h2, h3⟩
  · rw [if_pos rfl, bI_f (fun ⟨j, h1, h2⟩ => h ⟨j, by rw [v1, nI_clamp (by omega)]; omega, h2⟩)]
  · rw [v1, nI_clamp (by omega)] at h1
    rw [if_neg (fun e => by have := nI_pos (n := p) (by omega); rw [e] at this; exact this (by decide))]
    by_cases hp : kn ≤ p
    · rw [if_pos (nI_le hp (by omega)), bI_f (fun ⟨j, q1, q2⟩ => h3 j (by omega) q2)]
    · rw [if_neg (nI_ge (by omega) (by omega)), bI_t ⟨p, by omega, h2⟩]
theorem C_stampOf (hs : Sx R A) (hn : n < 6) (sn : SN A I n) (sl : SL A I n) (vn : VN A I n) (w o : Int32) {p : Nat} (hp : p < (I (A 118) n).toNatClampNeg) (hm : Mt A I n w o p) (hu : ∀ j, j < (I (A 118) n).toNatClampNeg → Mt A I n w o j → j = p) : F_Log_stampOf R (A (5 + 7 * n)) w o I = some (I (A 121) (60 * n + p)) := by
  have RS := hs.all
  obtain ⟨r, e, h⟩ := C_find hs hn sn sl vn w o
  obtain ⟨ln, kn, v1, v2, v3, v4⟩ := vn
  unfold F_Log_stampOf
  rw [e, ob_s]
  rcases h with ⟨rfl, h⟩ | ⟨p', h1, rfl, h2, h3⟩
  · exact absurd ⟨p, hp, hm⟩ h
  · have := hu p' h1 h2
    subst this
    rw [v1, nI_clamp (by omega)] at h1
    rw [if_neg (fun e => by have := nI_pos (n := p') (by omega); rw [e] at this; exact this (by decide)), chk_nI (by omega) (by omega), nI_clamp (by omega)]
    simp only [RS, hn]
    rw [(sl p' (by omega)).2.1]
theorem C_knowsEndOf (hs : Sx R A) (hn : n < 6) (sn : SN A I n) (sl : SL A I n) (vn : VN A I n) (o : Int32) : F_Log_knowsEndOf R (A (5 + 7 * n)) o I = some (bI (KnsE A I n 2 o ∨ KnsE A I n 3 o)) := by
  unfold F_Log_knowsEndOf B_Log_knowsEndOf_18
  rw [C_knows hs hn sn sl vn, C_knows hs hn sn sl vn, ob_s, ob_s, bI_if, bI_if]
  by_cases h1 : KnsE A I n 2 o
  · rw [if_pos h1, bI_t (Or.inl h1)]
  · rw [if_neg h1]
    by_cases h2 : KnsE A I n 3 o
    · rw [if_pos h2, bI_t (Or.inr h2)]
    · rw [if_neg h2, bI_f (fun h => h.elim h1 h2)]
theorem C_holdsFor (hs : Sx R A) (hn : n < 6) (sn : SN A I n) (sl : SL A I n) (vn : VN A I n) (o : Int32) : F_Log_holdsFor R (A (5 + 7 * n)) o I = some (bI (Hold A I n o)) := by
  unfold F_Log_holdsFor B_Log_holdsFor_17 B_Log_holdsFor_35 B_Log_holdsFor_39
  rw [C_has hs hn sn sl vn, C_has hs hn sn sl vn, C_knows hs hn sn sl vn, C_knowsEndOf hs hn sn sl vn, ob_s, ob_s, ob_s, ob_s, bI_if, bI_if, bI_if, bI_if]
  unfold Hold
  generalize (KnsE A I n 2 o ∨ KnsE A I n 3 o) = K
  by_cases h1 : HasE A I n 1 o <;> by_cases h2 : K <;> by_cases h3 : HasE A I n 2 o <;> by_cases h4 : KnsE A I n 2 o <;> simp only [h1, h2, h3, h4, if_true, if_false, not_true_eq_false, not_false_eq_true, and_true, and_false, true_and, false_and, or_true, or_false, true_or, false_or] <;> first | rw [bI_t trivial] | rw [bI_f (fun h => h)]
theorem M_fi (hs : Sx R A) (hn : n < 6) (w o : Int32) {many : Nat} (hk : many ≤ 60) : ∀ m k f (r0 : Int32), k + m = many → m < f → ∃ r, B_Model_find_6 R I f (A 110) (nI n) o w (nI many) r0 (nI k) = some r ∧ ((r = r0 ∧ ∀ j, k ≤ j → j < many → ¬ Mt A I n w o j) ∨ ∃ p, k ≤ p ∧ p < many ∧ r = nI p ∧ Mt A I n w o p ∧ ∀ j, p < j → j < many → ¬ Mt A I n w o j) := by
  have RS := hs.all
  intro m
  induction m with
  | zero =>
    intro k f r0 hkm hf
    obtain ⟨f, rfl⟩ : ∃ g, f = g + 1 := ⟨f - 1, by omega⟩
    refine ⟨r0, ?_, Or.inl ⟨rfl, fun j h h2 => by omega⟩⟩
    rw [B_Model_find_6, if_pos (nI_le (by omega) (by omega))]
  | succ m ih =>
    intro k f r0 hkm hf
    obtain ⟨f, rfl⟩ : ∃ g, f = g + 1 := ⟨f - 1, by omega⟩
    rw [B_Model_find_6]
    unfold B_Model_find_50 B_Model_find_52
    rw [if_neg (nI_ge (by omega) (by omega)), n60, chk_nI (by omega) (by omega), chk_nI (by omega) (by omega), nI_clamp (by omega), nI_1]
    simp only [RS]
    have no : ¬ Mt A I n w o k → ∃ r, B_Model_find_6 R I f (A 110) (nI n) o w (nI many) r0 (nI (k + 1)) = some r ∧ ((r = r0 ∧ ∀ j, k ≤ j → j < many → ¬ Mt A I n w o j) ∨ ∃ p, k ≤ p ∧ p < many ∧ r = nI p ∧ Mt A I n w o p ∧ ∀ j, p < j → j < many → ¬ Mt A I n w o j) := by
      intro hnm
      obtain ⟨r, e, h⟩ := ih (k + 1) f r0 (by omega) (by omega)
      refine ⟨r, e, ?_⟩
      rcases h with ⟨h1, h2⟩ | ⟨p, h1, h2, h3, h4, h5⟩
      · refine Or.inl ⟨h1, fun j q1 q2 => ?_⟩
        by_cases ej : j = k
        · subst ej; exact hnm
        · exact h2 j (by omega) q2
      · exact Or.inr ⟨p, by omega, h2, h3, h4, h5⟩
    by_cases h1 : I (A 122) (60 * n + k) = w
    · rw [if_pos h1]
      by_cases h2 : I (A 123) (60 * n + k) = o
      · rw [if_pos h2]
        obtain ⟨r, e, h⟩ := ih (k + 1) f (nI k) (by omega) (by omega)
        refine ⟨r, e, Or.inr ?_⟩
        rcases h with ⟨q1, q2⟩ | ⟨p, q1, q2, q3, q4, q5⟩
        · exact ⟨k, by omega, by omega, q1, ⟨h1, h2⟩, fun j z1 z2 => q2 j (by omega) z2⟩
        · exact ⟨p, by omega, q2, q3, q4, q5⟩
      · rw [if_neg h2]
        exact no (fun q => h2 q.2)
    · rw [if_neg h1]
      exact no (fun q => h1 q.1)
theorem M_fb (hs : Sx R A) (hn : n < 6) (w o : Int32) {many : Nat} (hk : many ≤ 60) : ∃ r, F_Model_find R (A 110) (nI n) o w (nI many) I = some r ∧ ((r = -1 ∧ ∀ j, j < many → ¬ Mt A I n w o j) ∨ ∃ p, p < many ∧ r = nI p ∧ Mt A I n w o p ∧ ∀ j, p < j → j < many → ¬ Mt A I n w o j) := by
  obtain ⟨r, e, h⟩ := M_fi (I := I) hs hn w o hk many 0 100 (-1) (by omega) (by omega)
  refine ⟨r, by unfold F_Model_find; exact e, ?_⟩
  rcases h with ⟨h1, h2⟩ | ⟨p, h1, h2, h3, h4, h5⟩
  · exact Or.inl ⟨h1, fun j q => h2 j (by omega) q⟩
  · exact Or.inr ⟨p, h2, h3, h4, h5⟩
theorem M_has (hs : Sx R A) (hn : n < 6) (vn : VN A I n) (w o : Int32) : F_Model_has R (A 110) (nI n) o w I = some (bI (HasE A I n w o)) := by
  have RS := hs.all
  obtain ⟨ln, kn, v1, v2, v3, v4⟩ := vn
  obtain ⟨r, e, h⟩ := M_fb (I := I) hs hn w o v4
  unfold F_Model_has HasE
  rw [chk_nI hn (by omega), nI_clamp (by omega)]
  simp only [RS]
  rw [v1, e, ob_s, nI_clamp (by omega)]
  rcases h with ⟨rfl, h⟩ | ⟨p, h1, rfl, h2, h3⟩
  · rw [if_pos (by decide), bI_f (fun ⟨j, q1, q2⟩ => h j q1 q2)]
  · rw [if_neg (nI_pos (by omega)), bI_t ⟨p, h1, h2⟩]
theorem M_knows (hs : Sx R A) (hn : n < 6) (vn : VN A I n) (w o : Int32) : F_Model_knows R (A 110) (nI n) o w I = some (bI (KnsE A I n w o)) := by
  have RS := hs.all
  obtain ⟨ln, kn, v1, v2, v3, v4⟩ := vn
  obtain ⟨r, e, h⟩ := M_fb (I := I) hs hn w o (many := kn) (by omega)
  unfold F_Model_knows KnsE
  rw [chk_nI hn (by omega), nI_clamp (by omega)]
  simp only [RS]
  rw [v2, e, ob_s, nI_clamp (by omega)]
  rcases h with ⟨rfl, h⟩ | ⟨p, h1, rfl, h2, h3⟩
  · rw [if_pos (by decide), bI_f (fun ⟨j, q1, q2⟩ => h j q1 q2)]
  · rw [if_neg (nI_pos (by omega)), bI_t ⟨p, h1, h2⟩]
theorem M_findAt (hs : Sx R A) (hn : n < 6) (vn : VN A I n) (w o : Int32) {p : Nat} (hp : p < (I (A 118) n).toNatClampNeg) (hm : Mt A I n w o p) (hu : ∀ j, j < (I (A 118) n).toNatClampNeg → Mt A I n w o j → j = p) : F_Model_find R (A 110) (nI n) o w (I (A 118) n) I = some (nI p) := by
  obtain ⟨ln, kn, v1, v2, v3, v4⟩ := vn
  obtain ⟨r, e, h⟩ := M_fb (I := I) hs hn w o v4
  rw [v1, nI_clamp (by omega)] at hp hu
  rw [v1, e]
  rcases h with ⟨rfl, h⟩ | ⟨p', h1, rfl, h2, h3⟩
  · exact absurd hm (h p hp)
  · rw [hu p' h1 h2]
end
