section
variable {R : Nat → Nat → Nat} {A : Nat → Nat} {I J : St} {n m : Nat}
theorem M_raise (hs : Sx R A) (hm : m < 6) (bl : I (A 116) m = 0 ∨ I (A 116) m = 1) : F_Model_raise R (A 110) (nI m) (I (A 113) n) I = some (up2 (up2 I (A 116) m (ldN A I n m)) (A 113) m (I (A 113) n)) := by
  have RS := hs.all
  unfold F_Model_raise B_Model_raise_28 B_Model_raise_29 ldN
  simp only [chk_nI hm (show 6 < 2 ^ 31 by omega), nI_clamp (show m < 2 ^ 31 by omega), RS, ap_s, z0, z1]
  by_cases h : I (A 113) m = I (A 113) n
  · rw [if_pos h, if_pos h]
    rcases bl with e | e
    · rw [if_pos e, e]
    · rw [if_neg (by rw [e]; decide), e]
  · rw [if_neg h, if_neg h]
    by_cases e : I (A 116) m = 0
    · rw [if_pos e]
    · rw [if_neg e]
/-- the reference's rows after a copy -/
def ShM (A : Nat → Nat) (I K : St) (n m : Nat) : Prop := Bt A I K (fun p => p = 113 ∨ p = 116 ∨ p = 118 ∨ p = 119 ∨ (120 ≤ p ∧ p < 125)) ∧ K (A 113) = upd (I (A 113)) m (I (A 113) n) ∧ K (A 116) = upd (I (A 116)) m (ldN A I n m) ∧ (∀ q, K (A 118) q = if q = m then nI (s1N A I n m) else I (A 118) q) ∧ K (A 119) = upd (upd (I (A 119)) n (nI (xN A I n m))) m (nI (yN A I n m)) ∧ (∀ d, d < 5 → K (A (120 + d)) = if sN A I n m < lnN A I n then upd (I (A (120 + d))) (60 * m + sN A I n m) (I (A (120 + d)) (60 * n + sN A I n m)) else I (A (120 + d)))
theorem M_sh3 (hs : Sx R A) (va : ∀ q, q < 6 → VN A I q) (hn : n < 6) (hm : m < 6) (hnm : m ≠ n) (hg : m / 3 = n / 3) (ee : ∀ q, q < 6 → ∀ k, k < lnN A I q → ¬ I (A 120) (60 * q + k) = -1) {K4 : St} (k0 : Bt A I K4 (fun p => p = 113 ∨ p = 116 ∨ p = 118 ∨ (120 ≤ p ∧ p < 125))) (k3 : K4 (A 113) = upd (I (A 113)) m (I (A 113) n)) (k6 : K4 (A 116) = upd (I (A 116)) m (ldN A I n m)) (k8 : ∀ q, K4 (A 118) q = if q = m then nI (s1N A I n m) else I (A 118) q) (kd : ∀ d, d < 5 → K4 (A (120 + d)) = if sN A I n m < lnN A I n then upd (I (A (120 + d))) (60 * m + sN A I n m) (I (A (120 + d)) (60 * n + sN A I n m)) else I (A (120 + d))) : ∃ K, B_Model_ship_180 R (A 110) (nI n) (nI m) K4 = some (nI (s1N A I n m), K) ∧ ShM A I K n m := by
  have RS := hs.all
  obtain ⟨v1, v2, v3, v4⟩ := (va n hn).s
  obtain ⟨w1, w2, w3, w4⟩ := (va m hm).s
  obtain ⟨b1, b2, b3⟩ := sN_b (A := A) (I := I) (n := n) (m := m)
  have lm : LM A K4 n (LN A I n m) (EN A I n m) := by
    intro q hq
    have hq6 : q < 6 := by omega
    obtain ⟨y1, y2, y3, y4⟩ := (va q hq6).s
    have h0 := kd 0 (by omega)
    rw [show 120 + 0 = 120 from rfl] at h0
    unfold LN EN
    by_cases e : q = m
    · subst e
      rw [if_pos rfl]
      refine ⟨by omega, by rw [k8, if_pos rfl], fun k hk => ?_⟩
      by_cases hk2 : k = sN A I n q
      · have hlt : sN A I n q < lnN A I n := by
          unfold s1N at hk
          by_cases h : sN A I n q < lnN A I n
          · exact h
          · rw [if_neg h] at hk; omega
        rw [h0, if_pos hlt, hk2, upd_s, if_pos ⟨rfl, rfl⟩]
        exact ⟨rfl, ee n hn _ hlt⟩
      · have hk3 : k < sN A I n q := by
          unfold s1N at hk
          split at hk <;> omega
        rw [if_neg (fun h => hk2 h.2)]
        have hrow : K4 (A 120) (60 * q + k) = I (A 120) (60 * q + k) := by
          rw [h0]
          by_cases h : sN A I n q < lnN A I n
          · rw [if_pos h, upd_n _ _ (by omega)]
          · rw [if_neg h]
        rw [hrow]
        exact ⟨rfl, ee q hq6 k (by omega)⟩
    · rw [if_neg e]
      refine ⟨y4, by rw [k8, if_neg e]; exact y1, fun k hk => ?_⟩
      have hrow : K4 (A 120) (60 * q + k) = I (A 120) (60 * q + k) := by
        rw [h0]
        by_cases h : sN A I n m < lnN A I n
        · rw [if_pos h, upd_n _ _ (by omega)]
        · rw [if_neg h]
      rw [if_neg (fun h => e h.1), hrow]
      exact ⟨rfl, ee q hq6 k hk⟩
  have hep : K4 (A 113) n = I (A 113) n := by rw [k3, upd_n _ _ (fun h => hnm h.symm)]
  have hLn : LN A I n m n = lnN A I n := by unfold LN; rw [if_neg (fun h => hnm h.symm)]
  have hLm : LN A I n m m = s1N A I n m := by unfold LN; rw [if_pos rfl]
  have hag := ag_le (LN A I n m) (EN A I n m) n (I (A 113) n) (lnN A I n)
  have hx60 : xN A I n m ≤ 60 := by unfold xN; omega
  have k9 : K4 (A 119) = I (A 119) := k0 119 (by omega) (by omega)
  have e1 := M_sh1 (m := m) hs hn lm (kn := knN A I n) (by omega) (lnN A I n) 0 100 (by omega) (by omega)
  have e2 := M_sh2 hs hn hm hnm hg lm (x := xN A I n m) (km := knN A I m) hx60 (by omega) (by rw [k9]; exact w2)
  rw [hep, hLn, show max (knN A I n) (ag (LN A I n m) (EN A I n m) n (I (A 113) n) 0) = knN A I n from by unfold ag; omega] at e1
  rw [hLn, hLm] at e2
  refine ⟨up2 (up2 K4 (A 119) n (nI (xN A I n m))) (A 119) m (nI (yN A I n m)), ?_, fun p q1 q2 => ?_, ?_, ?_, fun q => ?_, ?_, fun d hd => ?_⟩
  · unfold B_Model_ship_180
    rw [chk_nI hn (by omega), nI_clamp (by omega)]
    simp only [RS]
    rw [k9, v2, show (0 : Int32) = nI 0 from rfl, e1]
    exact e2
  · rw [V_row hs _ _ _ (by omega) q1 (by omega), V_row hs _ _ _ (by omega) q1 (by omega), k0 p q1 (by omega)]
  · rw [V_row hs _ _ _ (by omega) (by omega) (by omega), V_row hs _ _ _ (by omega) (by omega) (by omega), k3]
  · rw [V_row hs _ _ _ (by omega) (by omega) (by omega), V_row hs _ _ _ (by omega) (by omega) (by omega), k6]
  · rw [V_row hs _ _ _ (by omega) (by omega) (by omega), V_row hs _ _ _ (by omega) (by omega) (by omega), k8]
  · rw [V_same, V_same, k9]
  · rw [V_row hs _ _ _ (by omega) (by omega) (by omega), V_row hs _ _ _ (by omega) (by omega) (by omega), kd d hd]
theorem M_ship1 (hs : Sx R A) (va : ∀ q, q < 6 → VN A I q) (hn : n < 6) (hm : m < 6) (hnm : m ≠ n) (hg : m / 3 = n / 3) (hu : I (A 111) n = 0) (hum : I (A 111) m = 0) (hld : ¬ I (A 116) n = 0) (bl : I (A 116) m = 0 ∨ I (A 116) m = 1) (hle : I (A 113) m ≤ I (A 113) n) (ee : ∀ q, q < 6 → ∀ k, k < lnN A I q → ¬ I (A 120) (60 * q + k) = -1) : ∃ K, F_Model_ship R (A 110) (nI n) (nI m) I = some (nI (s1N A I n m), K) ∧ ShM A I K n m := by
  have RS := hs.all
  obtain ⟨v1, v2, v3, v4⟩ := (va n hn).s
  obtain ⟨w1, w2, w3, w4⟩ := (va m hm).s
  obtain ⟨b1, b2, b3⟩ := sN_b (A := A) (I := I) (n := n) (m := m)
  have er := M_raise (n := n) hs hm bl
  obtain ⟨K1, hK1⟩ : ∃ K1, K1 = up2 (up2 I (A 116) m (ldN A I n m)) (A 113) m (I (A 113) n) := ⟨_, rfl⟩
  have t1 : Bt A I K1 (fun p => p = 113 ∨ p = 116) := fun p q1 q2 => by rw [hK1, V_row hs _ _ _ (by omega) q1 (by omega), V_row hs _ _ _ (by omega) q1 (by omega)]
  have t3 : K1 (A 113) = upd (I (A 113)) m (I (A 113) n) := by rw [hK1, V_same, V_row hs _ _ _ (by omega) (by omega) (by omega)]
  have t6 : K1 (A 116) = upd (I (A 116)) m (ldN A I n m) := by rw [hK1, V_row hs _ _ _ (by omega) (by omega) (by omega), V_same]
  rw [← hK1] at er
  have ea : F_Model_alike R (A 110) (nI n) (nI m) K1 = some (nI (sN A I n m)) := by
    rw [M_alike (I := K1) hs hn hm v4 w4 (by rw [t1 118 (by omega) (by omega)]; exact v1) (by rw [t1 118 (by omega) (by omega)]; exact w1), t1 120 (by omega) (by omega)]
    rfl
  obtain ⟨K2, hK2⟩ : ∃ K2, K2 = up2 K1 (A 118) m (nI (sN A I n m)) := ⟨_, rfl⟩
  have u0 : Bt A I K2 (fun p => p = 113 ∨ p = 116 ∨ p = 118) := fun p q1 q2 => by rw [hK2, V_row hs _ _ _ (by omega) q1 (by omega), t1 p q1 (by omega)]
  have u3 : K2 (A 113) = upd (I (A 113)) m (I (A 113) n) := by rw [hK2, V_row hs _ _ _ (by omega) (by omega) (by omega), t3]
  have u6 : K2 (A 116) = upd (I (A 116)) m (ldN A I n m) := by rw [hK2, V_row hs _ _ _ (by omega) (by omega) (by omega), t6]
  have u8 : K2 (A 118) = upd (I (A 118)) m (nI (sN A I n m)) := by rw [hK2, V_same, t1 118 (by omega) (by omega)]
  have go : ∀ w, (if nI (lnN A I n) ≤ nI (sN A I n m) then B_Model_ship_180 R (A 110) (nI n) (nI m) K2 else (ob (F_Model_put R (A 110) (nI m) (K2 (A 122) (60 * n + sN A I n m)) (K2 (A 123) (60 * n + sN A I n m)) (K2 (A 124) (60 * n + sN A I n m)) (K2 (A 121) (60 * n + sN A I n m)) K2) (fun K3 => B_Model_ship_180 R (A 110) (nI n) (nI m) (up2 K3 (A 120) (60 * m + sN A I n m) (K3 (A 120) (60 * n + sN A I n m)))))) = w → (sN A I n m < lnN A I n ∨ lnN A I n ≤ sN A I n m) → F_Model_ship R (A 110) (nI n) (nI m) I = w := by
    intro w hw hcase
    unfold F_Model_ship
    rw [bel6 R I hn, ob_s, if_neg (by decide), bel6 R I hm, ob_s, if_neg (by decide), if_neg (fun h => hnm (nI_inj (by omega) (by omega) h).symm), nd3 (by omega), nd3 (by omega), hg, if_pos rfl]
    simp only [chk_nI hn (show 6 < 2 ^ 31 by omega), nI_clamp (show n < 2 ^ 31 by omega), chk_nI hm (show 6 < 2 ^ 31 by omega), nI_clamp (show m < 2 ^ 31 by omega), RS, ap_s]
    rw [if_pos hu, if_pos hum, if_neg hld, if_pos hle, er, ob_s, ea, ob_s, ← hK2, u8, upd_n _ _ (fun h => hnm h.symm), v1, n60, n60]
    rcases hcase with h | h
    · rw [if_neg (nI_ge h (by omega))] at hw ⊢
      simp only [chk_nI (show 60 * n + sN A I n m < 360 by omega) (show 360 < 2 ^ 31 by omega), nI_clamp (show 60 * n + sN A I n m < 2 ^ 31 by omega), chk_nI (show 60 * m + sN A I n m < 360 by omega) (show 360 < 2 ^ 31 by omega), nI_clamp (show 60 * m + sN A I n m < 2 ^ 31 by omega)]
      exact hw
    · rw [if_pos (nI_le h (by omega))] at hw ⊢
      exact hw
  by_cases h : sN A I n m < lnN A I n
  · obtain ⟨K3, ep, p0, p1, p2, p3, p4, p5, p6⟩ := M_put (I := K2) hs hm (show sN A I n m < 60 by omega) (by rw [u8, upd_s]) (K2 (A 122) (60 * n + sN A I n m)) (K2 (A 123) (60 * n + sN A I n m)) (K2 (A 124) (60 * n + sN A I n m)) (K2 (A 121) (60 * n + sN A I n m))
    rw [u0 121 (by omega) (by omega)] at p3
    rw [u0 122 (by omega) (by omega)] at p4
    rw [u0 123 (by omega) (by omega)] at p5
    rw [u0 124 (by omega) (by omega)] at p6
    rw [u0 120 (by omega) (by omega)] at p2
    have hv : K3 (A 120) (60 * n + sN A I n m) = I (A 120) (60 * n + sN A I n m) := by rw [p2, upd_n _ _ (by omega)]
    have e1 : s1N A I n m = sN A I n m + 1 := by unfold s1N; rw [if_pos h]
    obtain ⟨K, ek, hk⟩ := M_sh3 (K4 := up2 K3 (A 120) (60 * m + sN A I n m) (I (A 120) (60 * n + sN A I n m))) hs va hn hm hnm hg ee (fun p q1 q2 => by
        rw [V_row hs _ _ _ (by omega) q1 (by omega), p0 p q1 (by omega), u0 p q1 (by omega)])
      (by rw [V_row hs _ _ _ (by omega) (by omega) (by omega), p0 113 (by omega) (by omega), u3])
      (by rw [V_row hs _ _ _ (by omega) (by omega) (by omega), p0 116 (by omega) (by omega), u6])
      (fun q => by
        rw [V_row hs _ _ _ (by omega) (by omega) (by omega), p1, u8]
        by_cases e : q = m
        · rw [e, upd_s, if_pos rfl, e1]
        · rw [upd_n _ _ e, upd_n _ _ e, if_neg e])
      (fun d hd => by
        rw [if_pos h]
        rcases (show d = 0 ∨ d = 1 ∨ d = 2 ∨ d = 3 ∨ d = 4 by omega) with e | e | e | e | e <;> subst e
        · rw [V_same, p2]
          funext j
          unfold upd
          by_cases ej : j = 60 * m + sN A I n m
          · rw [if_pos ej, if_pos ej]
          · rw [if_neg ej, if_neg ej, if_neg ej]
        · rw [V_row hs _ _ _ (by omega) (by omega) (by omega)]; exact p3
        · rw [V_row hs _ _ _ (by omega) (by omega) (by omega)]; exact p4
        · rw [V_row hs _ _ _ (by omega) (by omega) (by omega)]; exact p5
        · rw [V_row hs _ _ _ (by omega) (by omega) (by omega)]; exact p6)
    refine ⟨K, go _ ?_ (Or.inl h), hk⟩
    rw [if_neg (nI_ge h (by omega)), ep, ob_s, hv]
    exact ek
  · have e1 : s1N A I n m = sN A I n m := by unfold s1N; rw [if_neg h]
    obtain ⟨K, ek, hk⟩ := M_sh3 (K4 := K2) hs va hn hm hnm hg ee (fun p q1 q2 => u0 p q1 (by omega)) u3 u6
      (fun q => by
        rw [u8]
        by_cases e : q = m
        · rw [e, upd_s, if_pos rfl, e1]
        · rw [upd_n _ _ e, if_neg e])
      (fun d hd => by rw [if_neg h, u0 _ (by omega) (by omega)])
    refine ⟨K, go _ ?_ (Or.inr (by omega)), hk⟩
    rw [if_pos (nI_le (by omega) (by omega))]
    exact ek
end
