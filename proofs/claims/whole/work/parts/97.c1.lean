section
variable {R : Nat → Nat → Nat} {A : Nat → Nat} {I J : St} {n t : Nat}
/-- a group that t uses has no ready node -/
def Lk (A : Nat → Nat) (I : St) (t : Nat) : Prop := (Us A I t 0 ∧ rdy A I 0 = -1) ∨ (Us A I t 1 ∧ rdy A I 1 = -1)
theorem C_lacks (hs : Sx R A) (sa : SA A I) (ht : t < 16) (sx : SX A I t) : F_Store_lacksReadyNode R (A 0) (A (46 + 4 * t)) I = some (bI (Lk A I t)) := by
  have step : ∀ g f, g < 2 → B_Store_lacksReadyNode_2 R I (f + 1) (A 0) (A (46 + 4 * t)) (nI g) = cif (Us A I t g ∧ rdy A I g = -1) (some 1) (B_Store_lacksReadyNode_2 R I f (A 0) (A (46 + 4 * t)) (nI (g + 1))) := by
    intro g f hg
    rw [B_Store_lacksReadyNode_2]
    unfold B_Store_lacksReadyNode_26
    rw [if_neg (show ¬ (2 : Int32) ≤ nI g from nI_ge (b := 2) hg (by omega)), C_usesGroup hs ht sx hg, ob_s, bI_if, C_readyNode hs sa hg, ob_s, nI_1]
    by_cases h1 : Us A I t g
    · rw [if_pos h1]
      by_cases h2 : rdy A I g = -1
      · rw [if_pos h2, cif_t ⟨h1, h2⟩]
      · rw [if_neg h2, cif_f (fun h => h2 h.2)]
    · rw [if_neg h1, cif_f (fun h => h1 h.1)]
  unfold F_Store_lacksReadyNode
  rw [show (0 : Int32) = nI 0 from rfl, step 0 99 (by omega), step 1 98 (by omega)]
  rw [show B_Store_lacksReadyNode_2 R I 98 (A 0) (A (46 + 4 * t)) (nI (1 + 1)) = some 0 from by rw [B_Store_lacksReadyNode_2, if_pos (show (2 : Int32) ≤ nI (1 + 1) from nI_le (a := 2) (by omega) (by omega))]]
  by_cases h1 : Us A I t 0 ∧ rdy A I 0 = -1
  · rw [cif_t h1, bI_t (P := Lk A I t) (Or.inl h1)]
  · rw [cif_f h1]
    by_cases h2 : Us A I t 1 ∧ rdy A I 1 = -1
    · rw [cif_t h2, bI_t (P := Lk A I t) (Or.inr h2)]
    · rw [cif_f h2, bI_f (P := Lk A I t) (fun h => h.elim h1 h2)]
theorem M_lacks (hs : Sx R A) (sa : VA A I) (ht : t < 16) : B_Model_commit_27 R 100 (A 110) (nI t) 0 I = cif (Lk A I t) (some (-3, I)) (B_Model_commit_60 R 100 (A 110) (nI t) 0 I) := by
  have step : ∀ g f, g < 2 → B_Model_commit_27 R (f + 1) (A 110) (nI t) (nI g) I = cif (Us A I t g ∧ rdy A I g = -1) (some (-3, I)) (B_Model_commit_27 R f (A 110) (nI t) (nI (g + 1)) I) := by
    intro g f hg
    rw [B_Model_commit_27]
    unfold B_Model_commit_52
    rw [if_neg (show ¬ (2 : Int32) ≤ nI g from nI_ge (b := 2) hg (by omega)), M_touches hs ht hg, ob_s, bI_if, M_ready hs sa hg, ob_s, nI_1]
    by_cases h1 : Us A I t g
    · rw [if_pos h1]
      rcases rdy_c A I hg with ⟨r1, r2⟩ | ⟨n, r1, hn, r3, r4⟩
      · rw [r1, if_neg (by decide), cif_t ⟨h1, rfl⟩]
      · rw [r3, if_pos (nI_pos' (by omega)), cif_f (fun h => nI_nm1 (by omega) h.2)]
    · rw [if_neg h1, cif_f (fun h => h1 h.1)]
  rw [show B_Model_commit_27 R 100 (A 110) (nI t) 0 I = B_Model_commit_27 R (99 + 1) (A 110) (nI t) (nI 0) I from rfl, step 0 99 (by omega), step (0 + 1) 98 (by omega)]
  rw [show B_Model_commit_27 R 98 (A 110) (nI t) (nI (0 + 1 + 1)) I = B_Model_commit_60 R 100 (A 110) (nI t) 0 I from by rw [B_Model_commit_27, if_pos (show (2 : Int32) ≤ nI (0 + 1 + 1) from nI_le (a := 2) (by omega) (by omega))]]
  by_cases h1 : Us A I t 0 ∧ rdy A I 0 = -1
  · rw [cif_t h1, cif_t (P := Lk A I t) (Or.inl h1)]
  · rw [cif_f h1]
    by_cases h2 : Us A I t 1 ∧ rdy A I 1 = -1
    · rw [cif_t h2, cif_t (P := Lk A I t) (Or.inr h2)]
    · rw [cif_f h2, cif_f (P := Lk A I t) (fun h => h.elim h1 h2)]
/-- the bar of a group -/
noncomputable def bq (A : Nat → Nat) (I : St) (t g : Nat) : Int32 := cif (Us A I t g) (bar A I (rdy A I g).toNatClampNeg (nx A I (rdy A I g).toNatClampNeg)) 0
noncomputable def blk (A : Nat → Nat) (I : St) (t : Nat) : Int32 := if bq A I t 0 = -6 then -6 else if bq A I t 1 = -6 then -6 else if bq A I t 1 = -7 then -7 else if bq A I t 0 = -7 then -7 else 0
theorem bq_c (g : Nat) : bq A I t g = -6 ∨ bq A I t g = -7 ∨ bq A I t g = 0 := by
  unfold bq
  by_cases h : Us A I t g
  · rw [cif_t h]
    unfold bar
    by_cases h1 : I (A 118) (rdy A I g).toNatClampNeg = 60
    · rw [cif_t h1]; exact Or.inl rfl
    · rw [cif_f h1]
      by_cases h2 : I (A 117) (rdy A I g).toNatClampNeg ≤ nx A I (rdy A I g).toNatClampNeg
      · rw [cif_t h2]; exact Or.inr (Or.inl rfl)
      · rw [cif_f h2]; exact Or.inr (Or.inr rfl)
  · rw [cif_f h]; exact Or.inr (Or.inr rfl)
theorem C_refusal (hs : Sx R A) (sa : SA A I) (nu : Num A I) (ht : t < 16) (sx : SX A I t) (hl : ¬ Lk A I t) : F_Store_refusalOfGroups R (A 0) (A (46 + 4 * t)) I = some (blk A I t) := by
  have RS := hs.all
  have step : ∀ g f x, g < 2 → B_Store_refusalOfGroups_4 R I (f + 1) (A 0) (A (46 + 4 * t)) x (nI g) = if bq A I t g = -6 then some (-6) else if bq A I t g = -7 then B_Store_refusalOfGroups_4 R I f (A 0) (A (46 + 4 * t)) (-7) (nI (g + 1)) else B_Store_refusalOfGroups_4 R I f (A 0) (A (46 + 4 * t)) x (nI (g + 1)) := by
    intro g f x hg
    rw [B_Store_refusalOfGroups_4]
    unfold B_Store_refusalOfGroups_75
    rw [if_neg (show ¬ (2 : Int32) ≤ nI g from nI_ge (b := 2) hg (by omega)), C_readyNode hs sa hg, ob_s, C_usesGroup hs ht sx hg, ob_s, bI_if, nI_1]
    by_cases h1 : Us A I t g
    · rw [if_pos h1]
      rcases rdy_c A I hg with ⟨r1, r2⟩ | ⟨n, r1, hn, r3, r4⟩
      · exfalso
        rcases (show g = 0 ∨ g = 1 by omega) with e | e <;> subst e
        · exact hl (Or.inl ⟨h1, r1⟩)
        · exact hl (Or.inr ⟨h1, r1⟩)
      · obtain ⟨sn, sl, vn⟩ := sa.2 n hn
        obtain ⟨ns, eb, eo⟩ := nu.2.1 n hn
        have hb : bq A I t g = bar A I n (nx A I n) := by unfold bq; rw [cif_t h1, r3, nI_clamp (by omega)]
        rw [r3, if_neg (nI_nm1 (by omega)), chk_nI hn (by omega), chk_nI hn (by omega), nI_clamp (by omega)]
        simp only [RS, hn]
        rw [C_nextStamp hs hn sa.1 sn sl vn nu.1 ns eb, ob_s, C_refusalOf hs hn sn vn, ob_s, hb]
    · have hb : bq A I t g = 0 := by unfold bq; rw [cif_f h1]
      rw [if_neg h1, hb, if_neg (by decide), if_neg (by decide)]
  unfold F_Store_refusalOfGroups
  rw [show B_Store_refusalOfGroups_4 R I 100 (A 0) (A (46 + 4 * t)) 0 0 = B_Store_refusalOfGroups_4 R I (99 + 1) (A 0) (A (46 + 4 * t)) 0 (nI 0) from rfl, step 0 99 0 (by omega)]
  have last : ∀ x, B_Store_refusalOfGroups_4 R I 98 (A 0) (A (46 + 4 * t)) x (nI (0 + 1 + 1)) = some x := fun x => by rw [B_Store_refusalOfGroups_4, if_pos (show (2 : Int32) ≤ nI (0 + 1 + 1) from nI_le (a := 2) (by omega) (by omega))]
  rw [step (0 + 1) 98 (-7) (by omega), step (0 + 1) 98 0 (by omega), last, last]
  unfold blk
  rcases bq_c (A := A) (I := I) (t := t) 0 with a | a | a <;> rcases bq_c (A := A) (I := I) (t := t) 1 with b | b | b <;> simp only [a, b, Nat.zero_add] <;> rfl
theorem M_blocked (hs : Sx R A) (sa : VA A I) (nu : Num A I) (ht : t < 16) (hl : ¬ Lk A I t) : F_Model_blocked R (A 110) (nI t) I = some (blk A I t) := by
  have RS := hs.all
  have step : ∀ g f x y, g < 2 → B_Model_blocked_7 R I (f + 1) (A 110) (nI t) x y (nI g) = B_Model_blocked_7 R I f (A 110) (nI t) (if bq A I t g = -6 then -6 else x) (if bq A I t g = -7 then -7 else y) (nI (g + 1)) := by
    intro g f x y hg
    rw [B_Model_blocked_7]
    unfold B_Model_blocked_58 B_Model_blocked_72 B_Model_blocked_73
    rw [if_neg (show ¬ (2 : Int32) ≤ nI g from nI_ge (b := 2) hg (by omega)), M_touches hs ht hg, ob_s, bI_if, M_ready hs sa hg, ob_s, nI_1]
    by_cases h1 : Us A I t g
    · rw [if_pos h1]
      rcases rdy_c A I hg with ⟨r1, r2⟩ | ⟨n, r1, hn, r3, r4⟩
      · exfalso
        rcases (show g = 0 ∨ g = 1 by omega) with e | e <;> subst e
        · exact hl (Or.inl ⟨h1, r1⟩)
        · exact hl (Or.inr ⟨h1, r1⟩)
      · have vn := sa n hn
        obtain ⟨ns, eb, eo⟩ := nu.2.1 n hn
        have hb : bq A I t g = bar A I n (nx A I n) := by unfold bq; rw [cif_t h1, r3, nI_clamp (by omega)]
        rw [r3, M_next hs hn vn nu.1 ns eb, ob_s, M_bars hs hn, ob_s, ← hb]
        rcases bq_c (A := A) (I := I) (t := t) g with a | a | a <;> rw [a] <;> rfl
    · have hb : bq A I t g = 0 := by unfold bq; rw [cif_f h1]
      rw [if_neg h1, hb, if_neg (by decide), if_neg (by decide)]
  unfold F_Model_blocked
  rw [show B_Model_blocked_7 R I 100 (A 110) (nI t) 0 0 0 = B_Model_blocked_7 R I (99 + 1) (A 110) (nI t) 0 0 (nI 0) from rfl, step 0 99 0 0 (by omega), step (0 + 1) 98 _ _ (by omega), B_Model_blocked_7, if_pos (show (2 : Int32) ≤ nI (0 + 1 + 1) from nI_le (a := 2) (by omega) (by omega))]
  unfold blk
  rcases bq_c (A := A) (I := I) (t := t) 0 with a | a | a <;> rcases bq_c (A := A) (I := I) (t := t) 1 with b | b | b <;> simp only [a, b, Nat.zero_add] <;> rfl
end
