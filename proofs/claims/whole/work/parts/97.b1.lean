section
variable {R : Nat → Nat → Nat} {A : Nat → Nat} {I J : St} {n : Nat}
/-- class and reference hold the same of one group's nodes -/
def SG (A : Nat → Nat) (I : St) (q : Nat) : Prop := SC A I ∧ ∀ n, n < 6 → n / 3 = q → SN A I n ∧ SL A I n ∧ VN A I n
theorem SA.g (h : SA A I) (q : Nat) : SG A I q := ⟨h.1, fun n hn _ => h.2 n hn⟩
theorem C_ready2 (hs : Sx R A) {q : Nat} (sa : SG A I q) (hq : q < 2) : F_Store_readyNode R (A 0) (nI q) I = some (rdy A I q) := by
  have RS := hs.all
  obtain ⟨c, sa⟩ := sa
  have step : ∀ (n f : Nat), n < 6 → n / 3 = q → B_Store_readyNode_6 R I (f + 1) (A 0) (nI (3 * q)) (nI n) = cif (Rdy A I n) (some (nI n)) (B_Store_readyNode_6 R I f (A 0) (nI (3 * q)) (nI (n + 1))) := by
    intro n f hn hn3
    obtain ⟨sn, sl, vn⟩ := sa n hn hn3
    have s6 := sn.2.2.2.2.1
    rw [B_Store_readyNode_6]
    unfold B_Store_readyNode_51
    rw [np3, if_neg (nI_ge (by omega) (by omega)), chk_nI hn (by omega), chk_nI hn (by omega), chk_nI hn (by omega), nI_clamp (by omega), nI_1]
    simp only [RS, hn]
    rw [C_isActive hs hn c sn, ob_s, s6, C_knowsEpoch hs hn sn sl vn, ob_s, bI_if, bI_if]
    by_cases h1 : Act A I n
    · rw [if_pos h1]
      by_cases h2 : Own A I n
      · rw [if_pos h2, cif_t ⟨h1, h2⟩]
      · rw [if_neg h2, cif_f (fun h => h2 h.2)]
    · rw [if_neg h1, cif_f (fun h => h1 h.1)]
  unfold F_Store_readyNode
  rw [n3', step (3 * q) 99 (by omega) (by omega), step (3 * q + 1) 98 (by omega) (by omega), step (3 * q + 2) 97 (by omega) (by omega)]
  have last : B_Store_readyNode_6 R I 97 (A 0) (nI (3 * q)) (nI (3 * q + 2 + 1)) = some (-1) := by
    rw [B_Store_readyNode_6, np3, if_pos (nI_le (by omega) (by omega))]
  rw [last]
  unfold rdy
  by_cases h1 : Rdy A I (3 * q)
  · rw [cif_t h1, cif_t h1]
  · rw [cif_f h1, cif_f h1]
    by_cases h2 : Rdy A I (3 * q + 1)
    · rw [cif_t h2, cif_t h2]
    · rw [cif_f h2, cif_f h2]
      by_cases h3 : Rdy A I (3 * q + 2)
      · rw [cif_t h3, cif_t h3]
      · rw [cif_f h3, cif_f h3]
theorem M_ready2 (hs : Sx R A) {q : Nat} (va : ∀ n, n < 6 → n / 3 = q → VN A I n) (hq : q < 2) : F_Model_ready R (A 110) (nI q) I = some (rdy A I q) := by
  have step : ∀ (n f : Nat), n < 6 → n / 3 = q → B_Model_ready_4 R I (f + 1) (A 110) (nI q) (nI n) = cif (Rdy A I n) (some (nI n)) (B_Model_ready_4 R I f (A 110) (nI q) (nI (n + 1))) := by
    intro n f hn hn3
    rw [B_Model_ready_4, n3, np3, if_neg (nI_ge (by omega) (by omega)), M_isReady hs hn (va n hn hn3), ob_s, bI_if, nI_1]
    by_cases h1 : Rdy A I n
    · rw [if_pos h1, cif_t h1]
    · rw [if_neg h1, cif_f h1]
  unfold F_Model_ready
  rw [n3, step (3 * q) 99 (by omega) (by omega), step (3 * q + 1) 98 (by omega) (by omega), step (3 * q + 2) 97 (by omega) (by omega)]
  have last : B_Model_ready_4 R I 97 (A 110) (nI q) (nI (3 * q + 2 + 1)) = some (-1) := by
    rw [B_Model_ready_4, n3, np3, if_pos (nI_le (by omega) (by omega))]
  rw [last]
  unfold rdy
  by_cases h1 : Rdy A I (3 * q)
  · rw [cif_t h1, cif_t h1]
  · rw [cif_f h1, cif_f h1]
    by_cases h2 : Rdy A I (3 * q + 1)
    · rw [cif_t h2, cif_t h2]
    · rw [cif_f h2, cif_f h2]
      by_cases h3 : Rdy A I (3 * q + 2)
      · rw [cif_t h3, cif_t h3]
      · rw [cif_f h3, cif_f h3]
/-- rows of one group alone decide who is ready -/
theorem Rdy.c2 (h0 : J (A 110) = I (A 110)) (h2 : J (A 112) n = I (A 112) n) (h3 : J (A 113) n = I (A 113) n) (h6 : J (A 116) n = I (A 116) n) (h7 : J (A 117) n = I (A 117) n) (h9 : J (A 119) n = I (A 119) n) (ha : ∀ k, k < (I (A 119) n).toNatClampNeg → J (A 120) (60 * n + k) = I (A 120) (60 * n + k)) : Rdy A J n = Rdy A I n := by
  unfold Rdy Act Own Lat
  rw [h0, h2, h3, h6, h7, h9]
  refine propext ⟨fun ⟨w, k, hk, e⟩ => ⟨w, k, hk, by rw [← ha k hk]; exact e⟩, fun ⟨w, k, hk, e⟩ => ⟨w, k, hk, by rw [ha k hk]; exact e⟩⟩
end
