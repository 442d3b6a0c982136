section
variable {R : Nat → Nat → Nat} {A : Nat → Nat} {I J : St} {r w : Nat}
theorem zck_b (P : Prop) {α : Type} (x : Option α) : zck (bI P) x = x := by
  unfold zck
  by_cases h : P
  · rw [bI_t h]; rfl
  · rw [bI_f h]; rfl
theorem M_clashes (hs : Sx R A) (sa : VA A I) (hr : r < 16) (hw : w < 16) : F_Model_clashes R (A 110) (nI r) (nI w) I = some (bI (Cl A I r w)) := by
  have RS := hs.all
  have step : ∀ g f (P : Prop), g < 2 → B_Model_clashes_5 R I (f + 1) (A 110) (nI r) (nI w) (bI P) (nI g) = B_Model_clashes_5 R I f (A 110) (nI r) (nI w) (bI (P ∨ ∃ k, 4 * g ≤ k ∧ k < 4 * g + 4 ∧ bt (I (A 127) w) k = true ∧ bt (I (A 126) r) k = true ∧ HoM A I r g)) (nI (g + 1)) := by
    intro g f P hg
    rw [B_Model_clashes_5]
    unfold B_Model_clashes_51 B_Model_clashes_47 B_Model_clashes_52 F_Model_bits
    rw [if_neg (show ¬ (2 : Int32) ≤ nI g from nI_ge (b := 2) hg (by omega)), chk_nI hr (by omega), chk_nI hw (by omega), nI_clamp (by omega), nI_clamp (by omega), ob_s, M_holds hs sa hr hg, ob_s, bI_if, bI_if, nI_1]
    simp only [RS]
    by_cases hP : P
    · rw [if_pos hP, bI_t (P := P ∨ ∃ k, 4 * g ≤ k ∧ k < 4 * g + 4 ∧ bt (I (A 127) w) k = true ∧ bt (I (A 126) r) k = true ∧ HoM A I r g) (Or.inl hP)]
    · rw [if_neg hP]
      by_cases h : (I (A 126) r &&& I (A 127) w) &&& ((15 : Int32) <<< (((4 : Int32) * nI g) &&& 31)) = 0
      · rw [if_pos h, bI_f (P := P ∨ ∃ k, 4 * g ≤ k ∧ k < 4 * g + 4 ∧ bt (I (A 127) w) k = true ∧ bt (I (A 126) r) k = true ∧ HoM A I r g)]
        rintro (q | ⟨k, q1, q2, q3, q4, q5⟩)
        · exact hP q
        · exact (bg _ hg).mp h ⟨k, q1, q2, by rw [b_and, q3, q4]; rfl⟩
      · rw [if_neg h]
        obtain ⟨k, q1, q2, q3⟩ := Classical.byContradiction fun e => h ((bg _ hg).mpr e)
        rw [b_and, Bool.and_eq_true] at q3
        by_cases l : RdG A I r g ∧ HoM A I r g
        · rw [if_pos l, bI_t (P := P ∨ ∃ k, 4 * g ≤ k ∧ k < 4 * g + 4 ∧ bt (I (A 127) w) k = true ∧ bt (I (A 126) r) k = true ∧ HoM A I r g) (Or.inr ⟨k, q1, q2, q3.2, q3.1, l.2⟩)]
        · rw [if_neg l, bI_f (P := P ∨ ∃ k, 4 * g ≤ k ∧ k < 4 * g + 4 ∧ bt (I (A 127) w) k = true ∧ bt (I (A 126) r) k = true ∧ HoM A I r g)]
          rintro (q | ⟨j, j1, j2, j3, j4, j5⟩)
          · exact hP q
          · exact l ⟨⟨j, j1, j2, j4⟩, j5⟩
  unfold F_Model_clashes
  rw [show B_Model_clashes_5 R I 100 (A 110) (nI r) (nI w) 0 0 = B_Model_clashes_5 R I (99 + 1) (A 110) (nI r) (nI w) 0 (nI 0) from rfl]
  have s0 := step 0 99 False (by omega)
  rw [bI_f (P := False) (fun h => h)] at s0
  rw [s0, step (0 + 1) 98 _ (by omega), B_Model_clashes_5, if_pos (show (2 : Int32) ≤ nI (0 + 1 + 1) from nI_le (a := 2) (by omega) (by omega)), zck_b]
  congr 1
  refine bI_c ⟨?_, ?_⟩
  · rintro ((h | ⟨k, h1, h2, h3, h4, h5⟩) | ⟨k, h1, h2, h3, h4, h5⟩)
    · exact h.elim
    · exact ⟨k, by omega, h3, h4, by rw [show k / 4 = 0 by omega]; exact h5⟩
    · exact ⟨k, by omega, h3, h4, by rw [show k / 4 = 0 + 1 by omega]; exact h5⟩
  · rintro ⟨k, h1, h3, h4, h5⟩
    by_cases e : k < 4
    · exact Or.inl (Or.inr ⟨k, by omega, by omega, h3, h4, by rw [show k / 4 = 0 by omega] at h5; exact h5⟩)
    · exact Or.inr ⟨k, by omega, by omega, h3, h4, by rw [show k / 4 = 0 + 1 by omega] at h5; exact h5⟩
end
