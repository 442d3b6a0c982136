section
variable {R : Nat → Nat → Nat} {A : Nat → Nat} {I J : St} {n m : Nat}
/-- the epoch of the last entry -/
def lE (A : Nat → Nat) (I : St) (n : Nat) : Int32 := if I (A 118) n = 0 then 0 else I (A 120) (60 * n + ((I (A 118) n).toNatClampNeg - 1))
def Beh (A : Nat → Nat) (I : St) (n m : Nat) : Prop := lE A I n < lE A I m ∨ (lE A I n = lE A I m ∧ ¬ I (A 118) m ≤ I (A 118) n)
def Fre (A : Nat → Nat) (I : St) (n m : Nat) : Prop := I (A 115) m = -1 ∨ I (A 115) m = nI n ∨ I (A 114) m < Ear A I m
/-- m grants the epoch x to n -/
def Gt (A : Nat → Nat) (I : St) (n : Nat) (x : Int32) (m : Nat) : Prop := I (A 111) m = 0 ∧ ¬ x ≤ I (A 113) m ∧ Fre A I n m ∧ ¬ Beh A I n m
theorem C_lastEpoch (hs : Sx R A) (hn : n < 6) (hl : I (A (5 + 7 * n)) 5 = I (A 118) n) (sl : SL A I n) (vn : VN A I n) : F_Log_lastEpoch R (A (5 + 7 * n)) I = some (lE A I n) := by
  have RS := hs.all
  obtain ⟨ln, kn, v1, v2, v3, v4⟩ := vn
  unfold F_Log_lastEpoch lE
  rw [hl, v1, nI_clamp (by omega)]
  by_cases h : ln = 0
  · subst h
    rw [if_pos (show nI 0 ≤ (0 : Int32) from by decide), if_pos (show nI 0 = (0 : Int32) from rfl)]
  · obtain ⟨l, rfl⟩ : ∃ l, ln = l + 1 := ⟨ln - 1, by omega⟩
    rw [if_neg (show ¬ nI (l + 1) ≤ (0 : Int32) from nI_ge (a := 0) (b := l + 1) (by omega) (by omega)), if_neg (show ¬ nI (l + 1) = (0 : Int32) from fun e => absurd (nI_inj (b := 0) (by omega) (by omega) e) (by omega)), nI_pred, chk_nI (by omega) (by omega), nI_clamp (by omega)]
    simp only [RS, hn]
    rw [(sl l (by omega)).1]
    rfl
theorem M_lastEpoch (hs : Sx R A) (hn : n < 6) (vn : VN A I n) : F_Model_lastEpoch R (A 110) (nI n) I = some (lE A I n) := by
  have RS := hs.all
  obtain ⟨ln, kn, v1, v2, v3, v4⟩ := vn
  unfold F_Model_lastEpoch lE
  simp only [chk_nI hn (show 6 < 2 ^ 31 by omega), nI_clamp (show n < 2 ^ 31 by omega), RS]
  rw [v1, nI_clamp (by omega)]
  by_cases h : ln = 0
  · subst h
    rw [if_pos (show nI 0 = (0 : Int32) from rfl), if_pos (show nI 0 = (0 : Int32) from rfl)]
  · obtain ⟨l, rfl⟩ : ∃ l, ln = l + 1 := ⟨ln - 1, by omega⟩
    have h0 : ¬ nI (l + 1) = (0 : Int32) := fun e => absurd (nI_inj (b := 0) (by omega) (by omega) e) (by omega)
    rw [if_neg h0, if_neg h0, n60, show 60 * n + (l + 1) = (60 * n + l) + 1 by omega, nI_pred, chk_nI (by omega) (by omega), nI_clamp (by omega)]
    rfl
theorem C_isBehind (hs : Sx R A) (hn : n < 6) (hm : m < 6) (ln : I (A (5 + 7 * n)) 5 = I (A 118) n) (lm : I (A (5 + 7 * m)) 5 = I (A 118) m) (sl : SL A I n) (sl' : SL A I m) (vn : VN A I n) (vn' : VN A I m) : F_Log_isBehind R (A (5 + 7 * n)) (A (5 + 7 * m)) I = some (bI (Beh A I n m)) := by
  unfold F_Log_isBehind
  rw [C_lastEpoch hs hn ln sl vn, C_lastEpoch hs hm lm sl' vn', ob_s, ob_s, ob_s, ob_s, ln, lm]
  by_cases h : lE A I n = lE A I m
  · rw [if_pos h]
    by_cases h2 : I (A 118) m ≤ I (A 118) n
    · rw [if_pos h2, bI_f]
      rintro (e | ⟨e1, e2⟩)
      · rw [ilt, h] at e; omega
      · exact e2 h2
    · rw [if_neg h2, bI_t (P := Beh A I n m) (Or.inr ⟨h, h2⟩)]
  · rw [if_neg h]
    by_cases h2 : lE A I m ≤ lE A I n
    · rw [if_pos h2, bI_f]
      rintro (e | ⟨e1, e2⟩)
      · rw [ilt] at e; rw [ile] at h2; omega
      · exact h e1
    · rw [if_neg h2, bI_t (P := Beh A I n m) (Or.inl (by rw [ilt]; rw [ile] at h2; omega))]
theorem C_wouldGrant (hs : Sx R A) (hn : n < 6) (hm : m < 6) (c : SC A I) (sn : SN A I m) (z0 : I (A (4 + 7 * n)) 0 = nI n) (ln : I (A (5 + 7 * n)) 5 = I (A 118) n) (sl : SL A I n) (sl' : SL A I m) (vn : VN A I n) (vn' : VN A I m) (hu : I (A 111) m = 0) (x : Int32) : F_Node_wouldGrant R (A (4 + 7 * m)) (A (4 + 7 * n)) x I = some (bI (Gt A I n x m)) := by
  have RS := hs.all
  have eb := C_isBehind hs hn hm ln sn.2.2.2.2.2.2.2.2.1 sl sl' vn vn'
  have ee := C_earliest hs hm c sn
  obtain ⟨s0, s3, s4, s5, s6, s7, s8, s9, l5, l6⟩ := sn
  have tail : ∀ t : Int32, t = bI (Fre A I n m) → B_Node_wouldGrant_35 R I (A (4 + 7 * m)) (A (4 + 7 * n)) x t = some (bI (Gt A I n x m)) := by
    intro t ht
    unfold B_Node_wouldGrant_35 B_Node_wouldGrant_66
    simp only [RS, hn, hm]
    rw [eb, ob_s, ht, bI_if, bI_if, s6]
    by_cases h1 : x ≤ I (A 113) m
    · rw [if_pos h1, bI_f (fun h => h.2.1 h1)]
    · rw [if_neg h1]
      by_cases h2 : Fre A I n m
      · rw [if_pos h2]
        by_cases h3 : Beh A I n m
        · rw [if_pos h3, bI_f (fun h => h.2.2.2 h3)]
        · rw [if_neg h3, bI_t (P := Gt A I n x m) ⟨hu, h1, h2, h3⟩]
      · rw [if_neg h2, bI_f (fun h => h2 h.2.2.1)]
  unfold F_Node_wouldGrant B_Node_wouldGrant_30
  rw [s8, z0]
  by_cases h1 : I (A 115) m = -1
  · rw [if_pos h1, tail 1 (by rw [bI_t (P := Fre A I n m) (Or.inl h1)])]
  · rw [if_neg h1]
    by_cases h2 : I (A 115) m = nI n
    · rw [if_pos h2, tail 1 (by rw [bI_t (P := Fre A I n m) (Or.inr (Or.inl h2))])]
    · have e9 : I (A (4 + 7 * m)) 9 = I (A 114) m := s9.elim id (fun e => absurd e.1 h1)
      rw [if_neg h2, ee, ob_s, e9]
      by_cases h3 : Ear A I m ≤ I (A 114) m
      · rw [if_pos h3, tail 0]
        rw [bI_f]
        rintro (e | e | e)
        · exact h1 e
        · exact h2 e
        · rw [ilt] at e; rw [ile] at h3; omega
      · rw [if_neg h3, tail 1 (by rw [bI_t (P := Fre A I n m) (Or.inr (Or.inr (by rw [ilt]; rw [ile] at h3; omega)))])]
theorem M_grants (hs : Sx R A) (hn : n < 6) (hm : m < 6) (vn : VN A I n) (vn' : VN A I m) (x : Int32) : F_Model_grants R (A 110) (nI m) (nI n) x I = some (bI (Gt A I n x m)) := by
  have RS := hs.all
  have t87 : ∀ t b : Int32, t = bI (Fre A I n m) → b = bI (Beh A I n m) → B_Model_grants_87 R I (A 110) (nI m) x t b = some (bI (Gt A I n x m)) := by
    intro t b ht hb
    unfold B_Model_grants_87 B_Model_grants_122
    simp only [chk_nI hm (show 6 < 2 ^ 31 by omega), nI_clamp (show m < 2 ^ 31 by omega), RS]
    rw [ht, hb, bI_if, bI_if]
    by_cases h0 : I (A 111) m = 0
    · rw [if_pos h0]
      by_cases h1 : x ≤ I (A 113) m
      · rw [if_pos h1, bI_f (fun h => h.2.1 h1)]
      · rw [if_neg h1]
        by_cases h2 : Fre A I n m
        · rw [if_pos h2]
          by_cases h3 : Beh A I n m
          · rw [if_pos h3, bI_f (fun h => h.2.2.2 h3)]
          · rw [if_neg h3, bI_t (P := Gt A I n x m) ⟨h0, h1, h2, h3⟩]
        · rw [if_neg h2, bI_f (fun h => h2 h.2.2.1)]
    · rw [if_neg h0, bI_f (fun h => h0 h.1)]
  have t39 : ∀ t : Int32, t = bI (Fre A I n m) → B_Model_grants_39 R I (A 110) (nI m) (nI n) x t = some (bI (Gt A I n x m)) := by
    intro t ht
    unfold B_Model_grants_39 B_Model_grants_82 B_Model_grants_86
    rw [M_lastEpoch hs hn vn, M_lastEpoch hs hm vn', ob_s, ob_s, ob_s, ob_s]
    simp only [chk_nI hm (show 6 < 2 ^ 31 by omega), nI_clamp (show m < 2 ^ 31 by omega), chk_nI hn (show 6 < 2 ^ 31 by omega), nI_clamp (show n < 2 ^ 31 by omega), RS]
    by_cases h : lE A I n < lE A I m
    · rw [if_pos h, t87 t 1 ht (by rw [bI_t (P := Beh A I n m) (Or.inl h)])]
    · rw [if_neg h]
      by_cases h2 : lE A I n = lE A I m
      · rw [if_pos h2]
        by_cases h3 : I (A 118) m ≤ I (A 118) n
        · rw [if_pos h3, t87 t 0 ht]
          rw [bI_f]
          rintro (e | ⟨e1, e2⟩)
          · exact h e
          · exact e2 h3
        · rw [if_neg h3, t87 t 1 ht (by rw [bI_t (P := Beh A I n m) (Or.inr ⟨h2, h3⟩)])]
      · rw [if_neg h2, t87 t 0 ht]
        rw [bI_f]
        rintro (e | ⟨e1, e2⟩)
        · exact h e
        · exact h2 e1
  unfold F_Model_grants B_Model_grants_34
  rw [M_earliest hs hm, ob_s]
  simp only [chk_nI hm (show 6 < 2 ^ 31 by omega), nI_clamp (show m < 2 ^ 31 by omega), RS]
  by_cases h1 : I (A 115) m = -1
  · rw [if_pos h1, t39 1 (by rw [bI_t (P := Fre A I n m) (Or.inl h1)])]
  · rw [if_neg h1]
    by_cases h3 : I (A 114) m < Ear A I m
    · rw [if_pos h3, t39 1 (by rw [bI_t (P := Fre A I n m) (Or.inr (Or.inr h3))])]
    · rw [if_neg h3]
      by_cases h2 : I (A 115) m = nI n
      · rw [if_pos h2, t39 1 (by rw [bI_t (P := Fre A I n m) (Or.inr (Or.inl h2))])]
      · rw [if_neg h2, t39 0]
        rw [bI_f]
        rintro (e | e | e)
        · exact h1 e
        · exact h2 e
        · exact h3 e
end
