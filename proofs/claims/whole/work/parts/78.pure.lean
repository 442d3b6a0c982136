section
variable {R : Nat → Nat → Nat} {A : Nat → Nat} {I : St}
theorem e_tick (hs : Sx R A) (c : SC A I) (x : Int32) : (F_Store_tick R (A 0) x I = some (-1, I) ∧ F_Model_tick R (A 110) x I = some (-1, I)) ∨ (1 ≤ x.toInt ∧ x.toInt ≤ 50 ∧ F_Store_tick R (A 0) x I = some (I (A 110) 1 + x, up2 I (A 3) 1 (I (A 110) 1 + x)) ∧ F_Model_tick R (A 110) x (up2 I (A 3) 1 (I (A 110) 1 + x)) = some (I (A 110) 1 + x, up2 (up2 I (A 3) 1 (I (A 110) 1 + x)) (A 110) 1 (I (A 110) 1 + x))) := by
  have RS := hs.all
  unfold F_Store_tick F_Model_tick B_Store_tick_11 B_Model_tick_11
  by_cases h1 : x < 1
  · exact Or.inl ⟨by rw [if_pos h1], by rw [if_pos h1]⟩
  · by_cases h2 : x ≤ 50
    · refine Or.inr ⟨?_, ?_, ?_, ?_⟩
      · rw [ilt, t1] at h1; omega
      · rw [ile, show (50 : Int32).toInt = 50 from by decide] at h2; exact h2
      · rw [if_neg h1, if_pos h2]
        simp only [RS, ap_s]
        rw [V_same, c.2.1]
        unfold upd
        rw [if_pos rfl]
      · rw [if_neg h1, if_pos h2]
        simp only [ap_s]
        rw [V_row hs I 1 _ (p := 3) (q := 110) (by omega) (by omega) (by omega), V_same]
        unfold upd
        rw [if_pos rfl]
    · exact Or.inl ⟨by rw [if_neg h1, if_neg h2], by rw [if_neg h1, if_neg h2]⟩
theorem bel6 (R : Nat → Nat → Nat) (J : St) {n : Nat} (hn : n < 6) : F_Model_below R (nI n) 6 J = some 1 := by
  rcases in_node R J (nI n) with ⟨q1, q2⟩ | ⟨n', hn', e, q1, q2⟩
  · exfalso
    unfold F_Store_isNode at q1
    rw [if_neg (nI_pos (by omega)), if_neg (show ¬ (6 : Int32) ≤ nI n from nI_ge (a := n) (b := 6) hn (by omega))] at q1
    exact absurd q1 (by decide)
  · exact q2
theorem e_skew (hs : Sx R A) (c : SC A I) (x s : Int32) : (F_Store_skew R (A 0) x s I = some (0, I) ∧ F_Model_skew R (A 110) x s I = some (0, I)) ∨ ∃ n, n < 6 ∧ x = nI n ∧ -(I (A 110) 0) ≤ s ∧ s ≤ I (A 110) 0 ∧ F_Store_skew R (A 0) x s I = some (1, up2 I (A (4 + 7 * n)) 5 s) ∧ F_Model_skew R (A 110) x s (up2 I (A (4 + 7 * n)) 5 s) = some (1, up2 (up2 I (A (4 + 7 * n)) 5 s) (A 112) n s) := by
  have RS := hs.all
  rcases in_node R I x with ⟨h1, h2⟩ | ⟨n, hn, rfl, h1, h2⟩
  · refine Or.inl ⟨?_, ?_⟩
    · unfold F_Store_skew B_Store_skew_30
      rw [h1, ob_s, if_pos rfl]
    · unfold F_Model_skew B_Model_skew_26
      rw [h2, ob_s, if_pos rfl]
  · by_cases l1 : s < -(I (A 110) 0)
    · refine Or.inl ⟨?_, ?_⟩
      · unfold F_Store_skew B_Store_skew_30
        rw [h1, ob_s, if_neg (by decide)]
        simp only [RS, c.1]
        rw [if_pos l1]
      · unfold F_Model_skew B_Model_skew_26
        rw [h2, ob_s, if_neg (by decide), if_pos l1]
    · by_cases l2 : s ≤ I (A 110) 0
      · refine Or.inr ⟨n, hn, rfl, ?_, l2, ?_, ?_⟩
        · rw [ile]; rw [ilt] at l1; omega
        · unfold F_Store_skew B_Store_skew_30
          rw [h1, ob_s, if_neg (by decide)]
          simp only [RS, c.1]
          rw [if_neg l1, if_pos l2, chk_nI hn (by omega), nI_clamp (by omega)]
          simp only [RS, hn, ap_s]
        · unfold F_Model_skew B_Model_skew_26
          rw [bel6 R _ hn, ob_s, if_neg (by decide), V_row hs I 5 s (p := 4 + 7 * n) (q := 110) (by omega) (by omega) (by omega), if_neg l1, if_pos l2, chk_nI hn (by omega), nI_clamp (by omega)]
          simp only [RS, ap_s]
      · refine Or.inl ⟨?_, ?_⟩
        · unfold F_Store_skew B_Store_skew_30
          rw [h1, ob_s, if_neg (by decide)]
          simp only [RS, c.1]
          rw [if_neg l1, if_neg l2]
        · unfold F_Model_skew B_Model_skew_26
          rw [h2, ob_s, if_neg (by decide), if_neg l1, if_neg l2]
theorem belt (R : Nat → Nat → Nat) (J : St) {t b : Nat} (hn : t < b) (hb : b ≤ 16) (e : J (A 110) 16 = nI b) : F_Model_below R (nI t) (J (A 110) 16) J = some 1 := by
  unfold F_Model_below
  rw [e, if_neg (nI_pos (by omega)), if_neg (nI_ge hn (by omega))]
theorem z1 : vp_nar .boolean (1 : Int32) = 1 := by decide
theorem z0 : vp_nar .boolean (0 : Int32) = 0 := by decide
theorem e_crash (hs : Sx R A) (sa : SA A I) (x : Int32) : (F_Store_crash R (A 0) x I = some (0, I) ∧ F_Model_crash R (A 110) x I = some (0, I)) ∨ ∃ n, n < 6 ∧ x = nI n ∧ I (A 111) n = 0 ∧ F_Store_crash R (A 0) x I = some (1, up2 (up2 I (A (4 + 7 * n)) 3 0) (A (4 + 7 * n)) 4 0) ∧ F_Model_crash R (A 110) x (up2 (up2 I (A (4 + 7 * n)) 3 0) (A (4 + 7 * n)) 4 0) = some (1, up2 (up2 (up2 (up2 I (A (4 + 7 * n)) 3 0) (A (4 + 7 * n)) 4 0) (A 111) n 1) (A 116) n 0) := by
  have RS := hs.all
  rcases in_node R I x with ⟨h1, h2⟩ | ⟨n, hn, rfl, h1, h2⟩
  · refine Or.inl ⟨?_, ?_⟩
    · unfold F_Store_crash B_Store_crash_19
      rw [h1, ob_s, if_pos rfl]
    · unfold F_Model_crash B_Model_crash_18
      rw [h2, ob_s, if_pos rfl]
  · have hu := ((sa.2 n hn).1).2.1
    by_cases l1 : I (A 111) n = 0
    · refine Or.inr ⟨n, hn, rfl, l1, ?_, ?_⟩
      · unfold F_Store_crash B_Store_crash_19
        rw [h1, ob_s, if_neg (by decide)]
        simp only [chk_nI hn (show 6 < 2 ^ 31 by omega), nI_clamp (show n < 2 ^ 31 by omega), RS, hn, ap_s]
        rw [if_neg (fun e => (hu.mp e) l1)]
      · unfold F_Model_crash B_Model_crash_18
        rw [bel6 R _ hn, ob_s, if_neg (by decide)]
        simp only [chk_nI hn (show 6 < 2 ^ 31 by omega), nI_clamp (show n < 2 ^ 31 by omega), RS, ap_s, z1, z0]
        rw [V_row hs _ 4 0 (p := 4 + 7 * n) (q := 111) (by omega) (by omega) (by omega), V_row hs _ 3 0 (p := 4 + 7 * n) (q := 111) (by omega) (by omega) (by omega), if_pos l1]
    · refine Or.inl ⟨?_, ?_⟩
      · unfold F_Store_crash B_Store_crash_19
        rw [h1, ob_s, if_neg (by decide), chk_nI hn (by omega), nI_clamp (by omega)]
        simp only [RS, hn]
        rw [if_pos (hu.mpr l1)]
      · unfold F_Model_crash B_Model_crash_18
        rw [h2, ob_s, if_neg (by decide), chk_nI hn (by omega), nI_clamp (by omega)]
        simp only [RS]
        rw [if_neg l1]
theorem e_recover (hs : Sx R A) (sa : SA A I) (x : Int32) : (F_Store_recover R (A 0) x I = some (0, I) ∧ F_Model_recover R (A 110) x I = some (0, I)) ∨ ∃ n, n < 6 ∧ x = nI n ∧ ¬ I (A 111) n = 0 ∧ F_Store_recover R (A 0) x I = some (1, up2 I (A (4 + 7 * n)) 3 1) ∧ F_Model_recover R (A 110) x (up2 I (A (4 + 7 * n)) 3 1) = some (1, up2 (up2 I (A (4 + 7 * n)) 3 1) (A 111) n 0) := by
  have RS := hs.all
  rcases in_node R I x with ⟨h1, h2⟩ | ⟨n, hn, rfl, h1, h2⟩
  · refine Or.inl ⟨?_, ?_⟩
    · unfold F_Store_recover B_Store_recover_19
      rw [h1, ob_s, if_pos rfl]
    · unfold F_Model_recover B_Model_recover_18
      rw [h2, ob_s, if_pos rfl]
  · have hu := ((sa.2 n hn).1).2.1
    by_cases l1 : I (A 111) n = 0
    · refine Or.inl ⟨?_, ?_⟩
      · unfold F_Store_recover B_Store_recover_19
        rw [h1, ob_s, if_neg (by decide), chk_nI hn (by omega), nI_clamp (by omega)]
        simp only [RS, hn]
        rw [if_neg (fun e => (hu.mp e) l1)]
      · unfold F_Model_recover B_Model_recover_18
        rw [h2, ob_s, if_neg (by decide), chk_nI hn (by omega), nI_clamp (by omega)]
        simp only [RS]
        rw [if_pos l1]
    · refine Or.inr ⟨n, hn, rfl, l1, ?_, ?_⟩
      · unfold F_Store_recover B_Store_recover_19
        rw [h1, ob_s, if_neg (by decide)]
        simp only [chk_nI hn (show 6 < 2 ^ 31 by omega), nI_clamp (show n < 2 ^ 31 by omega), RS, hn, ap_s]
        rw [if_pos (hu.mpr l1)]
      · unfold F_Model_recover B_Model_recover_18
        rw [bel6 R _ hn, ob_s, if_neg (by decide)]
        simp only [chk_nI hn (show 6 < 2 ^ 31 by omega), nI_clamp (show n < 2 ^ 31 by omega), RS, ap_s, z0]
        rw [V_row hs _ 3 1 (p := 4 + 7 * n) (q := 111) (by omega) (by omega) (by omega), if_neg l1]
theorem e_begin (hs : Sx R A) (c : SC A I) {b : Nat} (hb : b ≤ 16) (hbe : I (A 110) 16 = nI b) : (F_Store_begin R (A 0) I = some (-1, I) ∧ F_Model_begin R (A 110) I = some (-1, I)) ∨ (b < 16 ∧ F_Store_begin R (A 0) I = some (nI b, up2 I (A 0) 3 (nI (b + 1))) ∧ F_Model_begin R (A 110) (up2 I (A 0) 3 (nI (b + 1))) = some (nI b, up2 (up2 I (A 0) 3 (nI (b + 1))) (A 110) 16 (nI (b + 1)))) := by
  unfold F_Store_begin F_Model_begin
  by_cases h : b = 16
  · subst h
    refine Or.inl ⟨?_, ?_⟩
    · rw [c.2.2, hbe, if_neg (by decide)]
    · rw [hbe, if_pos (show nI 16 = (16 : Int32) from rfl)]
  · refine Or.inr ⟨by omega, ?_, ?_⟩
    · rw [c.2.2, hbe, if_pos (show nI b < (16 : Int32) from nI_lt (b := 16) (by omega) (by omega)), nI_1]
      simp only [ap_s]
      rw [V_same]
      unfold upd
      rw [if_pos rfl, nI_pred]
    · rw [V_row hs _ 3 _ (p := 0) (q := 110) (by omega) (by omega) (by omega), hbe, if_neg (show ¬ nI b = (16 : Int32) from fun e => h (nI_inj (b := 16) (by omega) (by omega) e)), nI_1]
      simp only [ap_s]
      rw [V_same]
      unfold upd
      rw [if_pos rfl, nI_pred]
theorem e_abort (hs : Sx R A) (sm : Sim A I) {b : Nat} (hb : b ≤ 16) (hbe : I (A 110) 16 = nI b) (x : Int32) : (F_Store_abort R (A 0) x I = some (0, I) ∧ F_Model_abort R (A 110) x I = some (0, I)) ∨ ∃ t, t < b ∧ x = nI t ∧ I (A 125) t = 0 ∧ F_Store_abort R (A 0) x I = some (1, up2 I (A (46 + 4 * t)) 3 4) ∧ F_Model_abort R (A 110) x (up2 I (A (46 + 4 * t)) 3 4) = some (1, up2 (up2 I (A (46 + 4 * t)) 3 4) (A 125) t 4) := by
  have RS := hs.all
  rcases in_tx R sm.1.1 hb hbe x with ⟨h1, h2⟩ | ⟨t, htb, rfl, h1, h2⟩
  · refine Or.inl ⟨?_, ?_⟩
    · unfold F_Store_abort B_Store_abort_20
      rw [h1, ob_s, if_pos rfl]
    · unfold F_Model_abort B_Model_abort_20
      rw [h2, ob_s, if_pos rfl]
  · have ht : t < 16 := by omega
    have hu := (sm.2 t ht).1
    by_cases l1 : I (A 125) t = 0
    · refine Or.inr ⟨t, htb, rfl, l1, ?_, ?_⟩
      · unfold F_Store_abort B_Store_abort_20
        rw [h1, ob_s, if_neg (by decide)]
        simp only [chk_nI ht (show 16 < 2 ^ 31 by omega), nI_clamp (show t < 2 ^ 31 by omega), RS, ht, ap_s]
        rw [hu, if_pos l1]
      · unfold F_Model_abort B_Model_abort_20
        rw [belt R _ htb hb (by rw [V_row hs _ 3 4 (p := 46 + 4 * t) (q := 110) (by omega) (by omega) (by omega)]; exact hbe), ob_s, if_neg (by decide)]
        simp only [chk_nI ht (show 16 < 2 ^ 31 by omega), nI_clamp (show t < 2 ^ 31 by omega), RS, ap_s]
        rw [V_row hs _ 3 4 (p := 46 + 4 * t) (q := 125) (by omega) (by omega) (by omega), if_pos l1]
    · refine Or.inl ⟨?_, ?_⟩
      · unfold F_Store_abort B_Store_abort_20
        rw [h1, ob_s, if_neg (by decide), chk_nI ht (by omega), nI_clamp (by omega)]
        simp only [RS, ht]
        rw [hu, if_neg l1]
      · unfold F_Model_abort B_Model_abort_20
        rw [h2, ob_s, if_neg (by decide), chk_nI ht (by omega), nI_clamp (by omega)]
        simp only [RS]
        rw [if_neg l1]
end
