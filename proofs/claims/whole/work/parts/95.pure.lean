section
variable {R : Nat → Nat → Nat} {A : Nat → Nat} {I J : St} {n m : Nat}
/-- how far two rows agree -/
def smF (a b : Nat → Int32) (l : Nat) : Nat → Nat → Nat
  | 0, s => s
  | f + 1, s => if l ≤ s then s else if a s = b s then smF a b l f (s + 1) else s
theorem smF_b {a b : Nat → Int32} {l : Nat} : ∀ f s, s ≤ l → l ≤ s + f → s ≤ smF a b l f s ∧ smF a b l f s ≤ l ∧ (∀ k, s ≤ k → k < smF a b l f s → a k = b k) ∧ (smF a b l f s < l → ¬ a (smF a b l f s) = b (smF a b l f s)) := by
  intro f
  induction f with
  | zero => intro s h1 h2; unfold smF; exact ⟨by omega, h1, fun k q1 q2 => by omega, fun h => by omega⟩
  | succ f ih =>
    intro s h1 h2
    unfold smF
    by_cases h3 : l ≤ s
    · rw [if_pos h3]; exact ⟨by omega, h1, fun k q1 q2 => by omega, fun h => by omega⟩
    · rw [if_neg h3]
      by_cases h4 : a s = b s
      · rw [if_pos h4]
        obtain ⟨i1, i2, i3, i4⟩ := ih (s + 1) (by omega) (by omega)
        refine ⟨by omega, i2, fun k q1 q2 => ?_, i4⟩
        by_cases e : k = s
        · rw [e]; exact h4
        · exact i3 k (by omega) q2
      · rw [if_neg h4]
        exact ⟨by omega, h1, fun k q1 q2 => by omega, fun _ => h4⟩
theorem C_epochAt (hs : Sx R A) (hn : n < 6) {l k : Nat} (hl : l ≤ 60) (h5 : I (A (5 + 7 * n)) 5 = nI l) (hk : k < 100) : F_Log_epochAt R (A (5 + 7 * n)) (nI k) I = some (if l ≤ k then -1 else I (A (6 + 7 * n)) k) := by
  have RS := hs.all
  unfold F_Log_epochAt B_Log_epochAt_21
  rw [if_neg (nI_pos (by omega)), h5]
  by_cases h : l ≤ k
  · rw [if_pos (nI_le h (by omega)), if_pos h]
  · rw [if_neg (nI_ge (by omega) (by omega)), if_neg h, chk_nI (by omega) (by omega), nI_clamp (by omega)]
    simp only [RS, hn]
theorem C_same (hs : Sx R A) (hn : n < 6) (hm : m < 6) {ln lm : Nat} (h1 : ln ≤ 60) (h2 : lm ≤ 60) (hln : I (A (5 + 7 * n)) 5 = nI ln) (hlm : I (A (5 + 7 * m)) 5 = nI lm) (ee : ∀ k, k < lm → ¬ I (A (6 + 7 * m)) k = -1) : ∀ d s f, s + d = min ln lm → d < f → B_Log_sameEntries_2 R I f (A (5 + 7 * m)) (A (5 + 7 * n)) (nI s) = some (nI (smF (I (A (6 + 7 * m))) (I (A (6 + 7 * n))) (min ln lm) d s)) := by
  have RS := hs.all
  intro d
  induction d with
  | zero =>
    intro s f hd hf
    obtain ⟨f, rfl⟩ : ∃ g, f = g + 1 := ⟨f - 1, by omega⟩
    unfold smF
    rw [B_Log_sameEntries_2]
    unfold B_Log_sameEntries_30
    rw [hlm]
    by_cases h : lm ≤ s
    · rw [if_pos (nI_le h (by omega))]
    · rw [if_neg (nI_ge (by omega) (by omega)), chk_nI (by omega) (by omega), C_epochAt hs hn h1 hln (by omega), ob_s, nI_clamp (by omega), if_pos (show ln ≤ s by omega)]
      simp only [RS, hm]
      rw [if_neg (ee s (by omega))]
  | succ d ih =>
    intro s f hd hf
    obtain ⟨f, rfl⟩ : ∃ g, f = g + 1 := ⟨f - 1, by omega⟩
    unfold smF
    rw [B_Log_sameEntries_2]
    unfold B_Log_sameEntries_30
    rw [hlm, if_neg (nI_ge (by omega) (by omega)), chk_nI (by omega) (by omega), C_epochAt hs hn h1 hln (by omega), ob_s, nI_clamp (by omega), if_neg (show ¬ ln ≤ s by omega), if_neg (show ¬ min ln lm ≤ s by omega), nI_1]
    simp only [RS, hm]
    by_cases h : I (A (6 + 7 * m)) s = I (A (6 + 7 * n)) s
    · rw [if_pos h, if_pos h, ih (s + 1) f (by omega) (by omega)]
    · rw [if_neg h, if_neg h]
theorem M_alike1 (hs : Sx R A) (hn : n < 6) (hm : m < 6) {ln lm : Nat} (h1 : ln ≤ 60) (h2 : lm ≤ 60) (hln : I (A 118) n = nI ln) (hlm : I (A 118) m = nI lm) : ∀ d s f, s + d = min ln lm → d < f → B_Model_alike_2 R I f (A 110) (nI n) (nI m) (nI s) = some (nI (smF (fun k => I (A 120) (60 * m + k)) (fun k => I (A 120) (60 * n + k)) (min ln lm) d s)) := by
  have RS := hs.all
  intro d
  induction d with
  | zero =>
    intro s f hd hf
    obtain ⟨f, rfl⟩ : ∃ g, f = g + 1 := ⟨f - 1, by omega⟩
    unfold smF
    rw [B_Model_alike_2]
    unfold B_Model_alike_53
    simp only [chk_nI hn (show 6 < 2 ^ 31 by omega), chk_nI hm (show 6 < 2 ^ 31 by omega), nI_clamp (show n < 2 ^ 31 by omega), nI_clamp (show m < 2 ^ 31 by omega), RS]
    rw [hlm, hln]
    by_cases h : ln ≤ s
    · rw [if_pos (nI_le h (by omega))]
    · rw [if_neg (nI_ge (by omega) (by omega)), if_pos (nI_le (by omega) (by omega))]
  | succ d ih =>
    intro s f hd hf
    obtain ⟨f, rfl⟩ : ∃ g, f = g + 1 := ⟨f - 1, by omega⟩
    unfold smF
    rw [B_Model_alike_2]
    unfold B_Model_alike_53
    simp only [chk_nI hn (show 6 < 2 ^ 31 by omega), chk_nI hm (show 6 < 2 ^ 31 by omega), nI_clamp (show n < 2 ^ 31 by omega), nI_clamp (show m < 2 ^ 31 by omega), RS]
    rw [hlm, hln, if_neg (nI_ge (by omega) (by omega)), if_neg (nI_ge (by omega) (by omega)), n60, n60, chk_nI (by omega) (by omega), chk_nI (by omega) (by omega), nI_clamp (by omega), nI_clamp (by omega), if_neg (show ¬ min ln lm ≤ s by omega), nI_1]
    by_cases h : I (A 120) (60 * m + s) = I (A 120) (60 * n + s)
    · rw [if_pos h, if_pos h.symm, ih (s + 1) f (by omega) (by omega)]
    · rw [if_neg h, if_neg (fun e => h e.symm)]
/-- how many entries reach up to the last one of the epoch ep that a second log has -/
def Ag (L : Nat → Nat) (E : Nat → Nat → Int32) (n : Nat) (ep : Int32) (p : Nat) : Prop := E n p = ep ∧ ∃ q, q / 3 = n / 3 ∧ q ≠ n ∧ p < L q ∧ E q p = E n p
noncomputable def ag (L : Nat → Nat) (E : Nat → Nat → Int32) (n : Nat) (ep : Int32) : Nat → Nat
  | 0 => 0
  | p + 1 => cif (Ag L E n ep p) (p + 1) (ag L E n ep p)
theorem ag_le (L : Nat → Nat) (E : Nat → Nat → Int32) (n : Nat) (ep : Int32) : ∀ p, ag L E n ep p ≤ p := by
  intro p
  induction p with
  | zero => exact Nat.le_refl _
  | succ p ih =>
    unfold ag
    by_cases h : Ag L E n ep p
    · rw [cif_t h]; exact Nat.le_refl _
    · rw [cif_f h]; omega
/-- the class's lengths and epochs of a group -/
def LC (A : Nat → Nat) (J : St) (n : Nat) (L : Nat → Nat) (E : Nat → Nat → Int32) : Prop := ∀ q, q / 3 = n / 3 → L q ≤ 60 ∧ J (A (5 + 7 * q)) 5 = nI (L q) ∧ (∀ k, k < L q → J (A (6 + 7 * q)) k = E q k ∧ ¬ E q k = -1)
/-- the reference's -/
def LM (A : Nat → Nat) (J : St) (n : Nat) (L : Nat → Nat) (E : Nat → Nat → Int32) : Prop := ∀ q, q / 3 = n / 3 → L q ≤ 60 ∧ J (A 118) q = nI (L q) ∧ (∀ k, k < L q → J (A 120) (60 * q + k) = E q k ∧ ¬ E q k = -1)
theorem C_inAnother (hs : Sx R A) (hn : n < 6) {L : Nat → Nat} {E : Nat → Nat → Int32} (lc : LC A J n L E) (z0 : J (A (4 + 7 * n)) 0 = nI n) {p : Nat} (hp : p < L n) : F_Store_isInAnotherLog R (A 0) (A (4 + 7 * n)) (nI p) J = some (bI (∃ q, q / 3 = n / 3 ∧ q ≠ n ∧ p < L q ∧ E q p = E n p)) := by
  have RS := hs.all
  obtain ⟨a1, a2, a3⟩ := lc n rfl
  have step : ∀ q f, q / 3 = n / 3 → B_Store_isInAnotherLog_8 R J (f + 1) (A 0) (A (4 + 7 * n)) (nI p) (nI (3 * (n / 3))) (nI q) = cif (q ≠ n ∧ p < L q ∧ E q p = E n p) (some 1) (B_Store_isInAnotherLog_8 R J f (A 0) (A (4 + 7 * n)) (nI p) (nI (3 * (n / 3))) (nI (q + 1))) := by
    intro q f hq
    have hq6 : q < 6 := by omega
    obtain ⟨b1, b2, b3⟩ := lc q hq
    rw [B_Store_isInAnotherLog_8]
    unfold B_Store_isInAnotherLog_52
    rw [np3, if_neg (nI_ge (by omega) (by omega)), z0, nI_1]
    by_cases e : q = n
    · rw [e, if_pos rfl, cif_f (fun h => h.1 rfl)]
    · rw [if_neg (fun h => e (nI_inj (by omega) (by omega) h)), chk_nI hq6 (by omega), nI_clamp (by omega)]
      simp only [RS, hq6, hn]
      rw [C_epochAt hs hq6 b1 b2 (by omega), ob_s, C_epochAt hs hn a1 a2 (by omega), ob_s, if_neg (show ¬ L n ≤ p by omega), (a3 p hp).1]
      by_cases h : L q ≤ p
      · rw [if_pos h, if_neg (fun w => (a3 p hp).2 w.symm), cif_f (fun w => by omega)]
      · rw [if_neg h, (b3 p (by omega)).1]
        by_cases w : E q p = E n p
        · rw [if_pos w, cif_t ⟨e, by omega, w⟩]
        · rw [if_neg w, cif_f (fun v => w v.2.2)]
  unfold F_Store_isInAnotherLog F_Store_firstNodeBeside F_Store_groupOfNode
  rw [z0, nd3 (by omega), ob_s, ob_s, n3', step (3 * (n / 3)) 99 (by omega), step (3 * (n / 3) + 1) 98 (by omega), step (3 * (n / 3) + 1 + 1) 97 (by omega)]
  rw [show B_Store_isInAnotherLog_8 R J 97 (A 0) (A (4 + 7 * n)) (nI p) (nI (3 * (n / 3))) (nI (3 * (n / 3) + 1 + 1 + 1)) = some 0 from by rw [B_Store_isInAnotherLog_8, np3, if_pos (nI_le (by omega) (by omega))]]
  have tr : ∀ q, q / 3 = n / 3 → q ≠ n ∧ p < L q ∧ E q p = E n p → bI (∃ q, q / 3 = n / 3 ∧ q ≠ n ∧ p < L q ∧ E q p = E n p) = 1 := fun q h1 h2 => bI_t ⟨q, h1, h2⟩
  by_cases h1 : 3 * (n / 3) ≠ n ∧ p < L (3 * (n / 3)) ∧ E (3 * (n / 3)) p = E n p
  · rw [cif_t h1, tr _ (by omega) h1]
  · rw [cif_f h1]
    by_cases h2 : 3 * (n / 3) + 1 ≠ n ∧ p < L (3 * (n / 3) + 1) ∧ E (3 * (n / 3) + 1) p = E n p
    · rw [cif_t h2, tr _ (by omega) h2]
    · rw [cif_f h2]
      by_cases h3 : 3 * (n / 3) + 1 + 1 ≠ n ∧ p < L (3 * (n / 3) + 1 + 1) ∧ E (3 * (n / 3) + 1 + 1) p = E n p
      · rw [cif_t h3, tr _ (by omega) h3]
      · rw [cif_f h3, bI_f]
        rintro ⟨q, w1, w2⟩
        rcases (show q = 3 * (n / 3) ∨ q = 3 * (n / 3) + 1 ∨ q = 3 * (n / 3) + 1 + 1 by omega) with v | v | v <;> rw [v] at w2
        · exact h1 w2
        · exact h2 w2
        · exact h3 w2
theorem C_agreed (hs : Sx R A) (hn : n < 6) {L : Nat → Nat} {E : Nat → Nat → Int32} (lc : LC A J n L E) (z0 : J (A (4 + 7 * n)) 0 = nI n) : F_Store_agreedEntries R (A 0) (A (4 + 7 * n)) J = some (nI (ag L E n (J (A (4 + 7 * n)) 6) (L n))) := by
  have RS := hs.all
  obtain ⟨a1, a2, a3⟩ := lc n rfl
  have go : ∀ p f, p ≤ L n → p < f → B_Store_agreedEntries_10 R J f (A 0) (A (4 + 7 * n)) (nI p - 1) = some (nI (ag L E n (J (A (4 + 7 * n)) 6) p)) := by
    intro p
    induction p with
    | zero =>
      intro f h1 h2
      obtain ⟨f, rfl⟩ : ∃ g, f = g + 1 := ⟨f - 1, by omega⟩
      rw [B_Store_agreedEntries_10, if_pos (by decide)]
      rfl
    | succ p ih =>
      intro f h1 h2
      obtain ⟨f, rfl⟩ : ∃ g, f = g + 1 := ⟨f - 1, by omega⟩
      rw [B_Store_agreedEntries_10, nI_pred, if_neg (nI_pos (by omega))]
      unfold B_Store_agreedEntries_42 ag
      simp only [RS, hn]
      rw [C_epochAt hs hn a1 a2 (by omega), ob_s, if_neg (show ¬ L n ≤ p by omega), (a3 p (by omega)).1, C_inAnother hs hn lc z0 (by omega), ob_s, bI_if, nI_1, show nI p + (-1 : Int32) = nI p - 1 from (Int32.sub_eq_add_neg _ _).symm, ih f (by omega) (by omega)]
      by_cases h3 : E n p = J (A (4 + 7 * n)) 6
      · rw [if_pos h3]
        by_cases h4 : ∃ q, q / 3 = n / 3 ∧ q ≠ n ∧ p < L q ∧ E q p = E n p
        · rw [if_pos h4, cif_t ⟨h3, h4⟩]
        · rw [if_neg h4, cif_f (fun h => h4 h.2)]
      · rw [if_neg h3, cif_f (fun h => h3 h.1)]
  unfold F_Store_agreedEntries
  simp only [RS, hn]
  rw [a2, go (L n) 100 (Nat.le_refl _) (by omega)]
end
