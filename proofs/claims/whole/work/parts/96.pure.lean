section
variable {R : Nat → Nat → Nat} {A : Nat → Nat} {I J : St} {n m : Nat}
theorem M_alike (hs : Sx R A) (hn : n < 6) (hm : m < 6) {ln lm : Nat} (h1 : ln ≤ 60) (h2 : lm ≤ 60) (hln : I (A 118) n = nI ln) (hlm : I (A 118) m = nI lm) : F_Model_alike R (A 110) (nI n) (nI m) I = some (nI (smF (fun k => I (A 120) (60 * m + k)) (fun k => I (A 120) (60 * n + k)) (min ln lm) (min ln lm) 0)) := by
  unfold F_Model_alike
  rw [show (0 : Int32) = nI 0 from rfl, M_alike1 hs hn hm h1 h2 hln hlm (min ln lm) 0 100 (by omega) (by omega)]
theorem C_sameE (hs : Sx R A) (hn : n < 6) (hm : m < 6) {ln lm : Nat} (h1 : ln ≤ 60) (h2 : lm ≤ 60) (hln : I (A (5 + 7 * n)) 5 = nI ln) (hlm : I (A (5 + 7 * m)) 5 = nI lm) (ee : ∀ k, k < lm → ¬ I (A (6 + 7 * m)) k = -1) : F_Log_sameEntries R (A (5 + 7 * m)) (A (5 + 7 * n)) I = some (nI (smF (I (A (6 + 7 * m))) (I (A (6 + 7 * n))) (min ln lm) (min ln lm) 0)) := by
  unfold F_Log_sameEntries
  rw [show (0 : Int32) = nI 0 from rfl, C_same hs hn hm h1 h2 hln hlm ee (min ln lm) 0 100 (by omega) (by omega)]
theorem M_copies (hs : Sx R A) (hn : n < 6) {L : Nat → Nat} {E : Nat → Nat → Int32} (lm : LM A J n L E) {p : Nat} (hp : p < L n) : F_Model_copies R (A 110) (nI n) (nI p) J = some (nI (q3 (fun q => p < L q ∧ E q p = E n p) n)) := by
  have RS := hs.all
  obtain ⟨a1, a2, a3⟩ := lm n rfl
  have step : ∀ q f c, q / 3 = n / 3 → B_Model_copies_9 R J (f + 1) (A 110) (nI n) (nI p) (nI c) (nI q) = B_Model_copies_9 R J f (A 110) (nI n) (nI p) (nI (c + qn (fun q => p < L q ∧ E q p = E n p) q)) (nI (q + 1)) := by
    intro q f c hq
    have hq6 : q < 6 := by omega
    obtain ⟨b1, b2, b3⟩ := lm q hq
    rw [B_Model_copies_9]
    unfold B_Model_copies_63 B_Model_copies_64
    rw [nd3 (by omega), n3', np3, if_neg (nI_ge (by omega) (by omega)), chk_nI hq6 (by omega), nI_clamp (by omega), n60, n60, chk_nI (by omega) (by omega), chk_nI (by omega) (by omega), nI_clamp (by omega), nI_clamp (by omega), nI_1]
    simp only [RS]
    rw [b2, show nI c + (0 : Int32) = nI (c + 0) from nI_add c 0, nI_1]
    by_cases h : L q ≤ p
    · rw [if_pos (nI_le h (by omega)), qn_f (Q := fun q => p < L q ∧ E q p = E n p) (fun w => by have := w.1; omega)]
    · rw [if_neg (nI_ge (by omega) (by omega)), (b3 p (by omega)).1, (a3 p hp).1]
      by_cases w : E q p = E n p
      · rw [if_pos w, qn_t (Q := fun q => p < L q ∧ E q p = E n p) ⟨by omega, w⟩]
      · rw [if_neg w, qn_f (Q := fun q => p < L q ∧ E q p = E n p) (fun v => w v.2)]
  unfold F_Model_copies
  rw [nd3 (by omega), n3', show (0 : Int32) = nI 0 from rfl, step (3 * (n / 3)) 99 0 (by omega), step (3 * (n / 3) + 1) 98 _ (by omega), step (3 * (n / 3) + 1 + 1) 97 _ (by omega), B_Model_copies_9, nd3 (by omega), n3', np3, if_pos (nI_le (by omega) (by omega))]
  unfold q3
  rw [Nat.zero_add]
theorem M_sh1 (hs : Sx R A) (hn : n < 6) {L : Nat → Nat} {E : Nat → Nat → Int32} (lm : LM A J n L E) {kn : Nat} (hkn : kn ≤ 60) : ∀ d s f, s + d = L n → d < f → B_Model_ship_191 R f (A 110) (nI n) (nI m) (nI (max kn (ag L E n (J (A 113) n) s))) (nI s) J = B_Model_ship_191 R 1 (A 110) (nI n) (nI m) (nI (max kn (ag L E n (J (A 113) n) (L n)))) (nI (L n)) J := by
  have RS := hs.all
  obtain ⟨a1, a2, a3⟩ := lm n rfl
  intro d
  induction d with
  | zero =>
    intro s f hd hf
    obtain ⟨f, rfl⟩ : ∃ g, f = g + 1 := ⟨f - 1, by omega⟩
    have : s = L n := by omega
    subst this
    rw [B_Model_ship_191, B_Model_ship_191]
    simp only [chk_nI hn (show 6 < 2 ^ 31 by omega), nI_clamp (show n < 2 ^ 31 by omega), RS]
    rw [a2, if_pos (nI_le (Nat.le_refl _) (by omega)), if_pos (nI_le (Nat.le_refl _) (by omega))]
  | succ d ih =>
    intro s f hd hf
    obtain ⟨f, rfl⟩ : ∃ g, f = g + 1 := ⟨f - 1, by omega⟩
    rw [← ih (s + 1) f (by omega) (by omega), B_Model_ship_191]
    have hb := ag_le L E n (J (A 113) n) s
    unfold B_Model_ship_248 B_Model_ship_250
    simp only [chk_nI hn (show 6 < 2 ^ 31 by omega), nI_clamp (show n < 2 ^ 31 by omega), RS, n60, chk_nI (show 60 * n + s < 360 by omega) (show 360 < 2 ^ 31 by omega), nI_clamp (show 60 * n + s < 2 ^ 31 by omega), nI_1]
    rw [a2, if_neg (nI_ge (by omega) (by omega)), (a3 s (by omega)).1, M_copies hs hn lm (by omega), ob_s]
    have hself : (fun q => s < L q ∧ E q s = E n s) n := ⟨by omega, rfl⟩
    have h3 := q3_o (n := n) (Q := fun q => s < L q ∧ E q s = E n s) hself
    have h4 := q3_le (fun q => s < L q ∧ E q s = E n s) n
    by_cases hs1 : s < max kn (ag L E n (J (A 113) n) s)
    · rw [if_pos (nI_lt hs1 (by omega))]
      have e : max kn (ag L E n (J (A 113) n) (s + 1)) = max kn (ag L E n (J (A 113) n) s) := by
        have := ag_le L E n (J (A 113) n) (s + 1)
        omega
      rw [e]
    · rw [if_neg (show ¬ nI s < nI (max kn (ag L E n (J (A 113) n) s)) from fun q => by rw [ilt, nI_toInt (by omega), nI_toInt (by omega)] at q; omega)]
      by_cases hE : E n s = J (A 113) n
      · rw [if_pos hE]
        by_cases ho : ∃ q, q / 3 = n / 3 ∧ q ≠ n ∧ s < L q ∧ E q s = E n s
        · have hz : ¬ q3 (fun q => (s < L q ∧ E q s = E n s) ∧ q ≠ n) n = 0 := fun q => q3_z.mp q (ho.elim fun q hq => ⟨q, hq.1, hq.2.2, hq.2.1⟩)
          rw [if_neg (show ¬ nI (q3 (fun q => s < L q ∧ E q s = E n s) n) < (2 : Int32) from fun q => by rw [ilt, nI_toInt (by omega), show (2 : Int32).toInt = 2 from by decide] at q; omega)]
          rw [show ag L E n (J (A 113) n) (s + 1) = s + 1 from by unfold ag; exact cif_t ⟨hE, ho⟩]
          rw [show max kn (s + 1) = s + 1 by omega]
        · have hz : q3 (fun q => (s < L q ∧ E q s = E n s) ∧ q ≠ n) n = 0 := q3_z.mpr (fun ⟨q, w1, w2, w3⟩ => ho ⟨q, w1, w3, w2⟩)
          rw [if_pos (show nI (q3 (fun q => s < L q ∧ E q s = E n s) n) < (2 : Int32) from by rw [ilt, nI_toInt (by omega), show (2 : Int32).toInt = 2 from by decide]; omega)]
          rw [show ag L E n (J (A 113) n) (s + 1) = ag L E n (J (A 113) n) s from by rw [ag]; exact cif_f (fun h => ho h.2)]
      · rw [if_neg hE]
        rw [show ag L E n (J (A 113) n) (s + 1) = ag L E n (J (A 113) n) s from by rw [ag]; exact cif_f (fun h => hE h.1)]
theorem M_sh2 (hs : Sx R A) (hn : n < 6) (hm : m < 6) (hnm : m ≠ n) (hg : m / 3 = n / 3) {L : Nat → Nat} {E : Nat → Nat → Int32} (lm : LM A J n L E) {x km : Nat} (hx : x ≤ 60) (hkm : km ≤ 60) (ekm : J (A 119) m = nI km) : B_Model_ship_191 R 1 (A 110) (nI n) (nI m) (nI x) (nI (L n)) J = some (nI (L m), up2 (up2 J (A 119) n (nI x)) (A 119) m (nI (max km (min x (L m))))) := by
  have RS := hs.all
  obtain ⟨a1, a2, a3⟩ := lm n rfl
  obtain ⟨b1, b2, b3⟩ := lm m hg
  rw [B_Model_ship_191]
  unfold B_Model_ship_288 B_Model_ship_317
  simp only [chk_nI hn (show 6 < 2 ^ 31 by omega), nI_clamp (show n < 2 ^ 31 by omega), chk_nI hm (show 6 < 2 ^ 31 by omega), nI_clamp (show m < 2 ^ 31 by omega), RS, ap_s]
  have r8 : ∀ (K : St) (j : Nat) (v : Int32), up2 K (A 119) j v (A 118) = K (A 118) := fun K j v => V_row hs K j v (by omega) (by omega) (by omega)
  have r9 : up2 J (A 119) n (nI x) (A 119) m = nI km := by rw [V_same, upd_n _ _ hnm]; exact ekm
  rw [a2, if_pos (nI_le (Nat.le_refl _) (by omega))]
  simp only [r8, r9, b2]
  by_cases h1 : L m ≤ x
  · rw [if_pos (nI_le h1 (by omega))]
    by_cases h2 : L m ≤ km
    · rw [if_pos (nI_le h2 (by omega)), show max km (min x (L m)) = km by omega]
    · rw [if_neg (nI_ge (by omega) (by omega)), show max km (min x (L m)) = L m by omega]
  · rw [if_neg (nI_ge (by omega) (by omega))]
    by_cases h2 : x ≤ km
    · rw [if_pos (nI_le h2 (by omega)), show max km (min x (L m)) = km by omega]
    · rw [if_neg (nI_ge (by omega) (by omega)), show max km (min x (L m)) = x by omega]
end
