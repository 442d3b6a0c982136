section
variable {R : Nat → Nat → Nat} {A : Nat → Nat} {I J K : St} {n t g : Nat}
/-- what a step does -/
def StE (A : Nat → Nat) (I J K : St) (b : Nat) : Prop := (J = I ∧ K = I) ∨ ∃ t, t < b ∧ ((I (A 125) t = 1 ∧ PrE A I K t) ∨ (I (A 125) t = 2 ∧ CoE A I J K t) ∨ (¬ I (A 125) t < 3 ∧ OuE A I K t))
theorem e_step (hs : Sx R A) (sm : Sim A I) (nu : Num A I) {b : Nat} (hb : b ≤ 16) (hbe : I (A 110) 16 = nI b) (uq : ∀ t, t < 16 → ∀ n, n < 6 → Uq A I n 1 (nI t) ∧ Uq A I n 2 (nI t)) (s5 : ∀ t, t < 16 → ∃ s, s < 5 ∧ I (A 125) t = nI s) (x : Int32) : ∃ v J K, F_Store_step R (A 0) x I = some (v, J) ∧ F_Model_step R (A 110) x J = some (v, K) ∧ StE A I J K b := by
  have RS := hs.all
  rcases in_tx R sm.1.1 hb hbe x with ⟨h1, h2⟩ | ⟨t, htb, rfl, h1, h2⟩
  · refine ⟨-1, I, I, ?_, ?_, Or.inl ⟨rfl, rfl⟩⟩
    · unfold F_Store_step
      rw [h1, ob_s, if_pos rfl]
    · unfold F_Model_step
      rw [h2, ob_s, if_pos rfl]
  have ht : t < 16 := by omega
  have hu := (sm.2 t ht).1
  have goC : ∀ w, (if I (A 125) t = 1 then (ob2 (F_Store_stepPreparing R (A 0) (nI t) I) (fun v50 I50 => some (v50, I50))) else (if I (A 125) t = 2 then (ob2 (F_Store_stepCommitting R (A 0) (nI t) I) (fun v56 I56 => some (v56, I56))) else (if I (A 125) t = 3 then (ob (F_Store_writeOutcome R (A 0) (nI t) 0 I) (fun I63 => (ob (F_Store_writeOutcome R (A 0) (nI t) 1 I63) (fun I69 => some ((I69 (A (46 + 4 * t)) 3), I69))))) else (if I (A 125) t = 4 then (ob (F_Store_writeOutcome R (A 0) (nI t) 0 I) (fun I63 => (ob (F_Store_writeOutcome R (A 0) (nI t) 1 I63) (fun I69 => some ((I69 (A (46 + 4 * t)) 3), I69))))) else some (I (A 125) t, I))))) = w → F_Store_step R (A 0) (nI t) I = w := by
    intro w hw
    unfold F_Store_step
    rw [h1, ob_s, if_neg (by decide)]
    simp only [chk_nI ht (show 16 < 2 ^ 31 by omega), nI_clamp (show t < 2 ^ 31 by omega), RS, ht, hu]
    exact hw
  have goM : ∀ (K : St) w, K (A 110) 16 = nI b → K (A 125) t = I (A 125) t → (if I (A 125) t = 1 then (ob2 (F_Model_prepared R (A 110) (nI t) K) (fun v25 I25 => some (v25, I25))) else (if I (A 125) t = 2 then (ob2 (F_Model_committing R (A 110) (nI t) K) (fun v41 I41 => some (v41, I41))) else B_Model_step_47 R 100 (A 110) (nI t) 0 K)) = w → F_Model_step R (A 110) (nI t) K = w := by
    intro K w k1 k2 hw
    unfold F_Model_step
    rw [belt R _ htb hb k1, ob_s, if_neg (by decide)]
    simp only [chk_nI ht (show 16 < 2 ^ 31 by omega), nI_clamp (show t < 2 ^ 31 by omega), RS, k2]
    exact hw
  obtain ⟨s, hs5, es⟩ := s5 t ht
  by_cases c1 : I (A 125) t = 1
  · obtain ⟨v, J, K, e1, e2, bj, h⟩ := e_prepared hs sm nu ht (fun n hn => (uq t ht n hn).1)
    refine ⟨v, J, K, goC _ (by rw [if_pos c1, e1, ob2_s]), goM J _ (by rw [bj 110 (by omega) (by omega)]; exact hbe) (by rw [bj 125 (by omega) (by omega)]) (by rw [if_pos c1, e2, ob2_s]), ?_⟩
    rcases h with h | h
    · exact Or.inl h
    · exact Or.inr ⟨t, htb, Or.inl ⟨c1, h⟩⟩
  by_cases c2 : I (A 125) t = 2
  · obtain ⟨v, J, K, e1, e2, h⟩ := e_committing hs sm ht (fun n hn => (uq t ht n hn).2)
    have bj : Bt A I J (fun p => p = 46 + 4 * t) := by
      rcases h with ⟨h, -⟩ | ⟨g, n, s, -, -, -, -, -, -, h, -⟩ | ⟨g, n, p, -, -, -, -, -, -, -, -, h, -⟩
      · intro p hp hP; rw [h]
      · intro p hp hP; rw [h]; exact V_row hs _ _ _ (by omega) hp hP
      · intro q hp hP; rw [h, V_row hs _ _ _ (by omega) hp hP, V_row hs _ _ _ (by omega) hp hP]
    exact ⟨v, J, K, goC _ (by rw [if_neg c1, if_pos c2, e1, ob2_s]), goM J _ (by rw [bj 110 (by omega) (by omega)]; exact hbe) (by rw [bj 125 (by omega) (by omega)]) (by rw [if_neg c1, if_pos c2, e2, ob2_s]), Or.inr ⟨t, htb, Or.inr (Or.inl ⟨c2, h⟩)⟩⟩
  rcases (show s = 0 ∨ s = 1 ∨ s = 2 ∨ s = 3 ∨ s = 4 by omega) with e | e | e | e | e <;> subst e
  · have c3 : ¬ I (A 125) t = 3 := by rw [es]; decide
    have c4 : ¬ I (A 125) t = 4 := by rw [es]; decide
    have c5 : I (A 125) t < 3 := by rw [es]; decide
    refine ⟨I (A 125) t, I, I, goC _ (by rw [if_neg c1, if_neg c2, if_neg c3, if_neg c4]), goM I _ hbe rfl ?_, Or.inl ⟨rfl, rfl⟩⟩
    rw [if_neg c1, if_neg c2, B_Model_step_47, if_neg (show ¬ (2 : Int32) ≤ 0 from by decide)]
    unfold B_Model_step_154
    simp only [chk_nI ht (show 16 < 2 ^ 31 by omega), nI_clamp (show t < 2 ^ 31 by omega), RS]
    rw [if_pos c5]
  · exact absurd es c1
  · exact absurd es c2
  · have h3 : ¬ I (A 125) t < 3 := by rw [es]; decide
    obtain ⟨J0, J, K, e0, e1, ej, em, ou, mr⟩ := e_outcomes hs sm nu ht h3
    exact ⟨I (A 125) t, J, K, goC _ (by rw [if_neg c1, if_neg c2, if_pos (show I (A 125) t = 3 from es), e0, ob_s, e1, ob_s, ej]), goM J _ (by rw [mr 110 (by omega) (by omega)]; exact hbe) (by rw [mr 125 (by omega) (by omega)]) (by rw [if_neg c1, if_neg c2]; exact em), Or.inr ⟨t, htb, Or.inr (Or.inr ⟨h3, ou⟩)⟩⟩
  · have h3 : ¬ I (A 125) t < 3 := by rw [es]; decide
    have c3 : ¬ I (A 125) t = 3 := by rw [es]; decide
    obtain ⟨J0, J, K, e0, e1, ej, em, ou, mr⟩ := e_outcomes hs sm nu ht h3
    exact ⟨I (A 125) t, J, K, goC _ (by rw [if_neg c1, if_neg c2, if_neg c3, if_pos (show I (A 125) t = 4 from es), e0, ob_s, e1, ob_s, ej]), goM J _ (by rw [mr 110 (by omega) (by omega)]; exact hbe) (by rw [mr 125 (by omega) (by omega)]) (by rw [if_neg c1, if_neg c2]; exact em), Or.inr ⟨t, htb, Or.inr (Or.inr ⟨h3, ou⟩)⟩⟩
end
