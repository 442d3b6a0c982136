section
variable {R : Nat → Nat → Nat} {A : Nat → Nat} {I J K : St} {n t g b : Nat}
theorem b8z {x : Int32} (h : ∀ i, 8 ≤ i → bt x i = false) : x = 0 ↔ ∀ k, k < 8 → bt x k = false := by
  refine ⟨fun e k _ => by rw [e, b_0], fun q => b_ext (fun i hi => ?_)⟩
  rw [b_0]
  by_cases c : i < 8
  · exact q i c
  · exact h i (by omega)
theorem nW (h8 : ∀ i, 8 ≤ i → bt (I (A 127) t) i = false) : I (A 127) t = 0 ↔ ¬ (WrG A I t 0 ∨ WrG A I t 1) := by
  rw [b8z h8]
  constructor
  · rintro h (⟨k, h1, h2, h3⟩ | ⟨k, h1, h2, h3⟩)
    · rw [h k (by omega)] at h3; cases h3
    · rw [h k (by omega)] at h3; cases h3
  · intro h k hk
    refine Bool.eq_false_iff.mpr (fun e => h ?_)
    by_cases c : k < 4
    · exact Or.inl ⟨k, by omega, by omega, e⟩
    · exact Or.inr ⟨k, by omega, by omega, e⟩
/-- the class's commit up to the refusals -/
theorem C_cm1 (hs : Sx R A) (sm : Sim A I) (ht : t < 16) (h1 : F_Store_isTransaction R (A 0) (nI t) I = some 1) : F_Store_commit R (A 0) (nI t) I = if I (A 125) t = 0 then cif (Lk A I t) (some (-3, I)) (cif (Lst A I t 0 ∨ Lst A I t 1) (some (4, up2 I (A (46 + 4 * t)) 3 4)) (cif (WrG A I t 0 ∨ WrG A I t 1) (B_Store_commit_86 R (A 0) (nI t) (A (46 + 4 * t)) I) (some (3, up2 I (A (46 + 4 * t)) 3 3)))) else some (-2, I) := by
  have RS := hs.all
  have sx := sm.2 t ht
  have l0 := C_lost hs sm.1 ht sx (g := 0) (by omega)
  have l1 := C_lost hs sm.1 ht sx (g := 1) (by omega)
  have w0 := C_writesIn hs ht sx.w (g := 0) (by omega)
  have w1 := C_writesIn hs ht sx.w (g := 1) (by omega)
  rw [show nI 0 = (0 : Int32) from rfl] at l0 w0
  rw [show nI 1 = (1 : Int32) from rfl] at l1 w1
  unfold F_Store_commit B_Store_commit_56
  rw [h1, ob_s, if_neg (by decide)]
  simp only [chk_nI ht (show 16 < 2 ^ 31 by omega), nI_clamp (show t < 2 ^ 31 by omega), RS, ht, sx.1, ap_s]
  rw [C_lacks hs sm.1 ht sx, ob_s, bI_if, l0, ob_s, bI_if, l1, ob_s, bI_if, w0, ob_s, bI_if, w1, ob_s, bI_if]
  by_cases c0 : I (A 125) t = 0
  · rw [if_pos c0, if_pos c0]
    by_cases c1 : Lk A I t
    · rw [if_pos c1, cif_t c1]
    · rw [if_neg c1, cif_f c1]
      by_cases c2 : Lst A I t 0
      · rw [if_pos c2, cif_t (Or.inl c2)]
      · rw [if_neg c2]
        by_cases c3 : Lst A I t 1
        · rw [if_pos c3, cif_t (Or.inr c3)]
        · rw [if_neg c3, cif_f (fun h => h.elim c2 c3)]
          by_cases c4 : WrG A I t 0
          · rw [if_pos c4, cif_t (Or.inl c4)]
          · rw [if_neg c4]
            by_cases c5 : WrG A I t 1
            · rw [if_pos c5, cif_t (Or.inr c5)]
            · rw [if_neg c5, cif_f (fun h => h.elim c4 c5)]
  · rw [if_neg c0, if_neg c0]
theorem C_cm2 (hs : Sx R A) (sm : Sim A I) (nu : Num A I) (hb : b ≤ 16) (htb : t < b) (hbe : I (A 110) 16 = nI b) (hl : ¬ Lk A I t) : B_Store_commit_86 R (A 0) (nI t) (A (46 + 4 * t)) I = if 0 ≤ blk A I t then cif (MW A I t b) (some (-4, I)) (ob (F_Store_abortOtherReaders R (A 0) (A (46 + 4 * t)) I) (fun I111 => (ob (F_Store_writeFirstEntries R (A 0) (nI t) I111) (fun I116 => some ((I116 (A (46 + 4 * t)) 3), I116))))) else some (blk A I t, I) := by
  have ht : t < 16 := by omega
  unfold B_Store_commit_86
  rw [C_refusal hs sm.1 nu ht (sm.2 t ht) hl, ob_s, C_mustWait hs sm hb htb hbe hl, ob_s, bI_if]
  by_cases c1 : 0 ≤ blk A I t
  · rw [if_pos c1, if_pos c1]
    by_cases c2 : MW A I t b
    · rw [if_pos c2, cif_t c2]
    · rw [if_neg c2, cif_f c2]
  · rw [if_neg c1, if_neg c1]
/-- the reference's -/
theorem M_cm1 (hs : Sx R A) (va : VA A I) (nu : Num A I) (hb : b ≤ 16) (htb : t < b) (hbe : I (A 110) 16 = nI b) : F_Model_commit R (A 110) (nI t) I = if I (A 125) t = 0 then cif (Lk A I t) (some (-3, I)) (cif (Lst A I t 0 ∨ Lst A I t 1) (some (4, up2 I (A 125) t 4)) (cif (I (A 127) t = 0) (some (3, up2 I (A 125) t 3)) (if 0 ≤ blk A I t then cif (MW A I t b) (some (-4, I)) (B_Model_commit_161 R 100 (A 110) (nI t) 0 I) else some (blk A I t, I)))) else some (-2, I) := by
  have RS := hs.all
  have ht : t < 16 := by omega
  unfold F_Model_commit
  rw [belt R _ htb hb hbe, ob_s, if_neg (by decide)]
  simp only [chk_nI ht (show 16 < 2 ^ 31 by omega), nI_clamp (show t < 2 ^ 31 by omega), RS]
  rw [M_lacks hs va ht]
  by_cases c0 : I (A 125) t = 0
  · rw [if_pos c0, if_pos c0]
    by_cases c1 : Lk A I t
    · rw [cif_t c1, cif_t c1]
    · rw [cif_f c1, cif_f c1]
      have step : ∀ g f, g < 2 → B_Model_commit_60 R (f + 1) (A 110) (nI t) (nI g) I = cif (Lst A I t g) (some (4, up2 I (A 125) t 4)) (B_Model_commit_60 R f (A 110) (nI t) (nI (g + 1)) I) := by
        intro g f hg
        rw [B_Model_commit_60, if_neg (show ¬ (2 : Int32) ≤ nI g from nI_ge (b := 2) hg (by omega)), M_lost hs va ht hg, ob_s, bI_if, nI_1]
        simp only [chk_nI ht (show 16 < 2 ^ 31 by omega), nI_clamp (show t < 2 ^ 31 by omega), RS, ap_s]
        by_cases h : Lst A I t g
        · rw [if_pos h, cif_t h]
        · rw [if_neg h, cif_f h]
      have last : B_Model_commit_60 R 98 (A 110) (nI t) (nI (0 + 1 + 1)) I = cif (I (A 127) t = 0) (some (3, up2 I (A 125) t 3)) (if 0 ≤ blk A I t then cif (MW A I t b) (some (-4, I)) (B_Model_commit_161 R 100 (A 110) (nI t) 0 I) else some (blk A I t, I)) := by
        have hm := M_mw1 hs va ht c1 hb hbe 8 0 100 (by omega) (by omega)
        rw [show nI 0 = (0 : Int32) from rfl] at hm
        rw [B_Model_commit_60, if_pos (show (2 : Int32) ≤ nI (0 + 1 + 1) from nI_le (a := 2) (by omega) (by omega)), M_blocked hs va nu ht c1, ob_s, hm]
        simp only [chk_nI ht (show 16 < 2 ^ 31 by omega), nI_clamp (show t < 2 ^ 31 by omega), RS, ap_s]
        by_cases h : I (A 127) t = 0
        · rw [if_pos h, cif_t h]
        · rw [if_neg h, cif_f h]
          by_cases h2 : 0 ≤ blk A I t
          · rw [if_pos h2, if_pos h2]
            by_cases h3 : MW A I t b
            · rw [cif_t h3, cif_t (h3.elim fun key q => ⟨key, Nat.zero_le _, q⟩)]
            · rw [cif_f h3, cif_f (fun ⟨key, _, q⟩ => h3 ⟨key, q⟩)]
          · rw [if_neg h2, if_neg h2]
      rw [show B_Model_commit_60 R 100 (A 110) (nI t) 0 I = B_Model_commit_60 R (99 + 1) (A 110) (nI t) (nI 0) I from rfl, step 0 99 (by omega), step (0 + 1) 98 (by omega), last]
      by_cases h : Lst A I t 0
      · rw [cif_t h, cif_t (P := Lst A I t 0 ∨ Lst A I t 1) (Or.inl h)]
      · rw [cif_f h]
        by_cases h2 : Lst A I t 1
        · rw [cif_t (P := Lst A I t (0 + 1)) h2, cif_t (P := Lst A I t 0 ∨ Lst A I t 1) (Or.inr h2)]
        · rw [cif_f (P := Lst A I t (0 + 1)) h2, cif_f (P := Lst A I t 0 ∨ Lst A I t 1) (fun q => q.elim h h2)]
  · rw [if_neg c0, if_neg c0]
end
