section
variable {R : Nat → Nat → Nat} {A : Nat → Nat} {I J : St} {n m : Nat}
theorem MR.x9 (h : MR A I J) : xN A J n m = xN A I n m := by
  unfold xN
  rw [h.kn, h.ln, h 113 (by omega) (by omega), show LN A J n m = LN A I n m from by funext q; unfold LN; rw [h.s1, h.ln], show EN A J n m = EN A I n m from by funext q k; unfold EN; rw [h.sn9, h 120 (by omega) (by omega)]]
theorem MR.y9 (h : MR A I J) : yN A J n m = yN A I n m := by
  unfold yN
  rw [h.kn, h.x9, h.s1]
theorem MR.ld9 (h : MR A I J) : ldN A J n m = ldN A I n m := by
  unfold ldN
  rw [h 113 (by omega) (by omega), h 116 (by omega) (by omega)]
/-- what a copy does -/
def ShE (A : Nat → Nat) (I K : St) (n m : Nat) : Prop := (∃ J, ShC A I J n m ∧ ∀ p, p < 110 → K (A p) = J (A p)) ∧ (∀ p, 110 ≤ p → p < 131 → ¬ (p = 113 ∨ p = 116 ∨ p = 118 ∨ p = 119 ∨ (120 ≤ p ∧ p < 125)) → K (A p) = I (A p)) ∧ K (A 113) = upd (I (A 113)) m (I (A 113) n) ∧ K (A 116) = upd (I (A 116)) m (ldN A I n m) ∧ (∀ q, K (A 118) q = if q = m then nI (s1N A I n m) else I (A 118) q) ∧ K (A 119) = upd (upd (I (A 119)) n (nI (xN A I n m))) m (nI (yN A I n m)) ∧ (∀ d, d < 5 → K (A (120 + d)) = if sN A I n m < lnN A I n then upd (I (A (120 + d))) (60 * m + sN A I n m) (I (A (120 + d)) (60 * n + sN A I n m)) else I (A (120 + d)))
theorem e_ship (hs : Sx R A) (sm : Sim A I) (bl : ∀ q, q < 6 → I (A 116) q = 0 ∨ I (A 116) q = 1) (ee : ∀ q, q < 6 → ∀ k, k < lnN A I q → ¬ I (A 120) (60 * q + k) = -1) (x y : Int32) : ∃ v J K, F_Store_ship R (A 0) x y I = some (v, J) ∧ F_Model_ship R (A 110) x y J = some (v, K) ∧ ((J = I ∧ K = I) ∨ (∃ n m, n < 6 ∧ m < 6 ∧ m ≠ n ∧ m / 3 = n / 3 ∧ ¬ I (A 116) n = 0 ∧ ¬ I (A 113) m ≤ I (A 113) n ∧ J = up2 I (A (4 + 7 * n)) 4 0 ∧ K = up2 J (A 116) n 0) ∨ ∃ n m, n < 6 ∧ m < 6 ∧ m ≠ n ∧ m / 3 = n / 3 ∧ I (A 111) n = 0 ∧ I (A 111) m = 0 ∧ ¬ I (A 116) n = 0 ∧ I (A 113) m ≤ I (A 113) n ∧ ShE A I K n m) := by
  have RS := hs.all
  have sa := sm.1
  -- all refusals alike
  have none9 : F_Store_ship R (A 0) x y I = some (-1, I) → F_Model_ship R (A 110) x y I = some (-1, I) → ∃ v J K, F_Store_ship R (A 0) x y I = some (v, J) ∧ F_Model_ship R (A 110) x y J = some (v, K) ∧ ((J = I ∧ K = I) ∨ (∃ n m, n < 6 ∧ m < 6 ∧ m ≠ n ∧ m / 3 = n / 3 ∧ ¬ I (A 116) n = 0 ∧ ¬ I (A 113) m ≤ I (A 113) n ∧ J = up2 I (A (4 + 7 * n)) 4 0 ∧ K = up2 J (A 116) n 0) ∨ ∃ n m, n < 6 ∧ m < 6 ∧ m ≠ n ∧ m / 3 = n / 3 ∧ I (A 111) n = 0 ∧ I (A 111) m = 0 ∧ ¬ I (A 116) n = 0 ∧ I (A 113) m ≤ I (A 113) n ∧ ShE A I K n m) := fun h1 h2 => ⟨-1, I, I, h1, h2, Or.inl ⟨rfl, rfl⟩⟩
  rcases in_node R I x with ⟨h1, h2⟩ | ⟨n, hn, rfl, h1, h2⟩
  · refine none9 ?_ ?_
    · unfold F_Store_ship B_Store_ship_30
      rw [h1, ob_s, if_pos rfl]
    · unfold F_Model_ship B_Model_ship_59
      rw [h2, ob_s, if_pos rfl]
  rcases in_node R I y with ⟨h3, h4⟩ | ⟨m, hm, rfl, h3, h4⟩
  · refine none9 ?_ ?_
    · unfold F_Store_ship B_Store_ship_30
      rw [h1, ob_s, if_neg (by decide), h3, ob_s, if_pos rfl]
    · unfold F_Model_ship B_Model_ship_59
      rw [h2, ob_s, if_neg (by decide), h4, ob_s, if_pos rfl]
  by_cases hnm : m = n
  · subst hnm
    refine none9 ?_ ?_
    · unfold F_Store_ship B_Store_ship_30
      rw [h1, ob_s, if_neg (by decide), ob_s, if_neg (by decide), if_pos rfl]
    · unfold F_Model_ship B_Model_ship_59
      rw [h2, ob_s, if_neg (by decide), ob_s, if_neg (by decide), if_pos rfl]
  have hne : ¬ nI n = nI m := fun h => hnm (nI_inj (by omega) (by omega) h).symm
  by_cases hg : m / 3 = n / 3
  · obtain ⟨sn, sl, vn⟩ := sa.2 n hn
    obtain ⟨snm, slm, vm⟩ := sa.2 m hm
    have goC : ∀ w, (if I (A (4 + 7 * n)) 3 = 0 then some (-1, I) else if I (A (4 + 7 * m)) 3 = 0 then some (-1, I) else if I (A (4 + 7 * n)) 4 = 0 then some (-1, I) else if I (A (4 + 7 * m)) 6 ≤ I (A (4 + 7 * n)) 6 then F_Store_ship R (A 0) (nI n) (nI m) I else some (-5, up2 I (A (4 + 7 * n)) 4 0)) = w → F_Store_ship R (A 0) (nI n) (nI m) I = w := by
      intro w hw
      rw [← hw]
      unfold F_Store_ship B_Store_ship_30 B_Store_ship_69 F_Store_groupOfNode
      rw [h1, ob_s, if_neg (by decide), h3, ob_s, if_neg (by decide), if_neg hne, ob_s, ob_s, nd3 (by omega), nd3 (by omega), hg, if_pos rfl]
      simp only [chk_nI hn (show 6 < 2 ^ 31 by omega), nI_clamp (show n < 2 ^ 31 by omega), chk_nI hm (show 6 < 2 ^ 31 by omega), nI_clamp (show m < 2 ^ 31 by omega), RS, hn, hm, ap_s]
      by_cases c1 : I (A (4 + 7 * n)) 3 = 0
      · rw [if_pos c1, if_pos c1]
      · rw [if_neg c1, if_neg c1]
        by_cases c2 : I (A (4 + 7 * m)) 3 = 0
        · rw [if_pos c2, if_pos c2]
        · rw [if_neg c2, if_neg c2]
          by_cases c3 : I (A (4 + 7 * n)) 4 = 0
          · rw [if_pos c3, if_pos c3]
          · rw [if_neg c3, if_neg c3]
            by_cases c4 : I (A (4 + 7 * m)) 6 ≤ I (A (4 + 7 * n)) 6
            · simp only [if_pos c4, if_neg c1, if_neg c2, if_neg c3]
            · rw [if_neg c4, if_neg c4]
    have goM : ∀ (K : St) w, (if K (A 111) n = 0 then (if K (A 111) m = 0 then (if K (A 116) n = 0 then some (-1, K) else if K (A 113) m ≤ K (A 113) n then F_Model_ship R (A 110) (nI n) (nI m) K else some (-5, up2 K (A 116) n 0)) else some (-1, K)) else some (-1, K)) = w → F_Model_ship R (A 110) (nI n) (nI m) K = w := by
      intro K w hw
      rw [← hw]
      unfold F_Model_ship B_Model_ship_59
      rw [bel6 R K hn, ob_s, if_neg (by decide), bel6 R K hm, ob_s, if_neg (by decide), if_neg hne, nd3 (by omega), nd3 (by omega), hg, if_pos rfl]
      simp only [chk_nI hn (show 6 < 2 ^ 31 by omega), nI_clamp (show n < 2 ^ 31 by omega), chk_nI hm (show 6 < 2 ^ 31 by omega), nI_clamp (show m < 2 ^ 31 by omega), RS, ap_s, z0]
      by_cases c1 : K (A 111) n = 0
      · rw [if_pos c1, if_pos c1]
        by_cases c2 : K (A 111) m = 0
        · rw [if_pos c2, if_pos c2]
          by_cases c3 : K (A 116) n = 0
          · rw [if_pos c3, if_pos c3]
          · rw [if_neg c3, if_neg c3]
            by_cases c4 : K (A 113) m ≤ K (A 113) n
            · simp only [if_pos c4, if_pos c1, if_pos c2, if_neg c3]
            · rw [if_neg c4, if_neg c4]
        · rw [if_neg c2, if_neg c2]
      · rw [if_neg c1, if_neg c1]
    by_cases hu : I (A 111) n = 0
    · by_cases hum : I (A 111) m = 0
      · by_cases hld : I (A 116) n = 0
        · exact none9 (goC _ (by rw [if_neg (fun h => (sn.2.1.mp h) hu), if_neg (fun h => (snm.2.1.mp h) hum), if_pos (by rw [sn.2.2.1]; exact hld)])) (goM I _ (by rw [if_pos hu, if_pos hum, if_pos hld]))
        · by_cases hle : I (A 113) m ≤ I (A 113) n
          · obtain ⟨J, ej, hj⟩ := C_ship1 hs sa hn hm hnm hg hu hum hld hle ee
            have mr : MR A I J := fun p q1 q2 => hj.1 p q2 (by omega)
            have bm : Bt A I J (fun p => p < 110) := fun p q1 q2 => mr p (by omega) q1
            obtain ⟨K, ek, k0, k3, k6, k8, k9, kd⟩ := M_ship1 (I := J) hs (fun q hq => (sa.2 q hq).2.2.cg bm (by omega) (by omega)) hn hm hnm hg (by rw [mr 111 (by omega) (by omega)]; exact hu) (by rw [mr 111 (by omega) (by omega)]; exact hum) (by rw [mr 116 (by omega) (by omega)]; exact hld) (by rw [mr 116 (by omega) (by omega)]; exact bl m hm) (by rw [mr 113 (by omega) (by omega)]; exact hle) (fun q hq k hk => by rw [mr.ln] at hk; rw [mr 120 (by omega) (by omega)]; exact ee q hq k hk)
            rw [mr.s1] at ek
            refine ⟨_, J, K, ej, ek, Or.inr (Or.inr ⟨n, m, hn, hm, hnm, hg, hu, hum, hld, hle, ⟨J, hj, fun p q1 => k0 p (by omega) (by omega)⟩, fun p q1 q2 q3 => ?_, ?_, ?_, fun q => ?_, ?_, fun d hd => ?_⟩)⟩
            · rw [k0 p q2 q3, mr p q1 q2]
            · rw [k3, mr 113 (by omega) (by omega)]
            · rw [k6, mr.ld9, mr 116 (by omega) (by omega)]
            · rw [k8, mr.s1, mr 118 (by omega) (by omega)]
            · rw [k9, mr.x9, mr.y9, mr 119 (by omega) (by omega)]
            · rw [kd d hd, mr.sn9, mr.ln, mr (120 + d) (by omega) (by omega)]
          · have b : ∀ p, p < 131 → p ≠ 4 + 7 * n → up2 I (A (4 + 7 * n)) 4 0 (A p) = I (A p) := fun p q1 q2 => V_row hs _ _ _ (by omega) q1 q2
            refine ⟨-5, up2 I (A (4 + 7 * n)) 4 0, up2 (up2 I (A (4 + 7 * n)) 4 0) (A 116) n 0, goC _ ?_, goM _ _ ?_, Or.inr (Or.inl ⟨n, m, hn, hm, hnm, hg, hld, hle, rfl, rfl⟩)⟩
            · rw [if_neg (fun h => (sn.2.1.mp h) hu), if_neg (fun h => (snm.2.1.mp h) hum), if_neg (fun h => hld (sn.2.2.1 ▸ h)), sn.2.2.2.2.1, snm.2.2.2.2.1, if_neg hle]
            · rw [b 111 (by omega) (by omega), b 116 (by omega) (by omega), b 113 (by omega) (by omega), if_pos hu, if_pos hum, if_neg hld, if_neg hle]
      · exact none9 (goC _ (by rw [if_neg (fun h => (sn.2.1.mp h) hu), if_pos (snm.2.1.mpr hum)])) (goM I _ (by rw [if_pos hu, if_neg hum]))
    · exact none9 (goC _ (by rw [if_pos (sn.2.1.mpr hu)])) (goM I _ (by rw [if_neg hu]))
  · refine none9 ?_ ?_
    · unfold F_Store_ship B_Store_ship_30 F_Store_groupOfNode
      rw [h1, ob_s, if_neg (by decide), h3, ob_s, if_neg (by decide), if_neg hne, ob_s, ob_s, nd3 (by omega), nd3 (by omega), if_neg (fun h => hg (nI_inj (by omega) (by omega) h).symm)]
    · unfold F_Model_ship B_Model_ship_59
      rw [h2, ob_s, if_neg (by decide), h4, ob_s, if_neg (by decide), if_neg hne, nd3 (by omega), nd3 (by omega), if_neg (fun h => hg (nI_inj (by omega) (by omega) h).symm)]
end
