section
variable {R : Nat → Nat → Nat} {A : Nat → Nat} {I J : St} {n m : Nat}
theorem imin_n {a b : Nat} (ha : a < 2 ^ 31) (hb : b < 2 ^ 31) : imin (nI a) (nI b) = nI (min a b) := by
  unfold imin
  by_cases h : b < a
  · rw [if_pos (nI_lt h ha), show min a b = b by omega]
  · rw [if_neg (fun e => by rw [ilt, nI_toInt ha, nI_toInt hb] at e; omega), show min a b = a by omega]
theorem imax_n {a b : Nat} (ha : a < 2 ^ 31) (hb : b < 2 ^ 31) : imax (nI a) (nI b) = nI (max a b) := by
  unfold imax
  by_cases h : a < b
  · rw [if_pos (nI_lt h hb), show max a b = b by omega]
  · rw [if_neg (fun e => by rw [ilt, nI_toInt ha, nI_toInt hb] at e; omega), show max a b = a by omega]
theorem MR.ln (h : MR A I J) (q : Nat) : lnN A J q = lnN A I q := by unfold lnN; rw [h 118 (by omega) (by omega)]
theorem MR.kn (h : MR A I J) (q : Nat) : knN A J q = knN A I q := by unfold knN; rw [h 119 (by omega) (by omega)]
theorem MR.sn9 (h : MR A I J) : sN A J n m = sN A I n m := by
  unfold sN
  rw [h.ln, h.ln, h 120 (by omega) (by omega)]
theorem MR.s1 (h : MR A I J) : s1N A J n m = s1N A I n m := by
  unfold s1N
  rw [h.sn9, h.ln]
theorem C_takeEpoch (hs : Sx R A) (hm : m < 6) (sn : SN A I m) (hle : I (A 113) m ≤ I (A 113) n) : ∃ J, F_Node_takeEpoch R (A (4 + 7 * m)) (I (A 113) n) I = some J ∧ Bt A I J (fun p => p = 4 + 7 * m) ∧ J (A (4 + 7 * m)) = upd (upd (I (A (4 + 7 * m))) 6 (I (A 113) n)) 4 (ldN A I n m) := by
  have s4 := sn.2.2.1
  have s6 := sn.2.2.2.2.1
  unfold F_Node_takeEpoch ldN
  by_cases h : I (A 113) m = I (A 113) n
  · rw [s6, if_pos (by rw [h, ile]; omega), if_pos h, ← s4, ← h, ← s6, upd_id, upd_id]
    exact ⟨I, rfl, fun p q1 q2 => rfl, rfl⟩
  · rw [s6, if_neg (fun q => h (by rw [ieq]; rw [ile] at q hle; omega)), if_neg h, ap_s, ap_s]
    refine ⟨_, rfl, fun p q1 q2 => ?_, ?_⟩
    · rw [V_row hs _ _ _ (by omega) q1 q2, V_row hs _ _ _ (by omega) q1 q2]
    · rw [V_same, V_same]
/-- the class's rows after a copy -/
def ShC (A : Nat → Nat) (I J : St) (n m : Nat) : Prop := Bt A I J (fun p => p = 4 + 7 * m ∨ p = 5 + 7 * n ∨ (5 + 7 * m ≤ p ∧ p < 11 + 7 * m)) ∧ J (A (4 + 7 * m)) = upd (upd (I (A (4 + 7 * m))) 6 (I (A 113) n)) 4 (ldN A I n m) ∧ J (A (5 + 7 * n)) 5 = I (A (5 + 7 * n)) 5 ∧ J (A (5 + 7 * n)) 6 = nI (xN A I n m) ∧ J (A (5 + 7 * m)) 5 = nI (s1N A I n m) ∧ J (A (5 + 7 * m)) 6 = nI (yN A I n m) ∧ (∀ d, d < 5 → J (A (6 + d + 7 * m)) = if sN A I n m < lnN A I n then upd (I (A (6 + d + 7 * m))) (sN A I n m) (I (A (120 + d)) (60 * n + sN A I n m)) else I (A (6 + d + 7 * m)))
theorem C_ship1 (hs : Sx R A) (sa : SA A I) (hn : n < 6) (hm : m < 6) (hnm : m ≠ n) (hg : m / 3 = n / 3) (hu : I (A 111) n = 0) (hum : I (A 111) m = 0) (hld : ¬ I (A 116) n = 0) (hle : I (A 113) m ≤ I (A 113) n) (ee : ∀ q, q < 6 → ∀ k, k < lnN A I q → ¬ I (A 120) (60 * q + k) = -1) : ∃ J, F_Store_ship R (A 0) (nI n) (nI m) I = some (nI (s1N A I n m), J) ∧ ShC A I J n m := by
  have RS := hs.all
  obtain ⟨sn, sl, vn⟩ := sa.2 n hn
  obtain ⟨snm, slm, vm⟩ := sa.2 m hm
  obtain ⟨v1, v2, v3, v4⟩ := vn.s
  obtain ⟨w1, w2, w3, w4⟩ := vm.s
  obtain ⟨b1, b2, b3⟩ := sN_b (A := A) (I := I) (n := n) (m := m)
  obtain ⟨J1, e1, bt1, r1⟩ := C_takeEpoch (n := n) hs hm snm hle
  have mr1 : MR A I J1 := fun p q1 q2 => bt1 p q2 (by omega)
  obtain ⟨J2, e2, bt2, f5, f6, fd⟩ := C_follow (I := J1) hs hn hm hnm (vn.cg bt1 (by omega) (by omega)) (vm.cg bt1 (by omega) (by omega)) (by rw [bt1 _ (by omega) (by omega), mr1 118 (by omega) (by omega)]; exact sn.2.2.2.2.2.2.2.2.1) (by rw [bt1 _ (by omega) (by omega), mr1 118 (by omega) (by omega)]; exact snm.2.2.2.2.2.2.2.2.1) (sl.cg bt1 hn (fun d hd => by omega) (fun p q1 q2 => by omega)) (slm.cg bt1 hm (fun d hd => by omega) (fun p q1 q2 => by omega)) (fun k hk => by rw [mr1.ln] at hk; rw [mr1 120 (by omega) (by omega)]; exact ee m hm k hk)
  simp only [mr1.sn9, mr1.ln, mr1.s1] at f5 fd
  rw [bt1 _ (by omega) (by omega)] at f6
  have j2 : ∀ p, p < 131 → p ≠ 4 + 7 * m → ¬ (5 + 7 * m ≤ p ∧ p < 11 + 7 * m) → J2 (A p) = I (A p) := fun p q1 q2 q3 => by rw [bt2 p q1 q3, bt1 p q1 q2]
  have jd : ∀ d, d < 5 → J2 (A (6 + d + 7 * m)) = if sN A I n m < lnN A I n then upd (I (A (6 + d + 7 * m))) (sN A I n m) (I (A (120 + d)) (60 * n + sN A I n m)) else I (A (6 + d + 7 * m)) := fun d hd => by
    rw [fd d hd, bt1 _ (by omega) (by omega), mr1 (120 + d) (by omega) (by omega)]
  have lc : LC A J2 n (LN A I n m) (EN A I n m) := by
    intro q hq
    have hq6 : q < 6 := by omega
    obtain ⟨qn, ql, qv⟩ := sa.2 q hq6
    obtain ⟨y1, y2, y3, y4⟩ := qv.s
    unfold LN EN
    by_cases e : q = m
    · subst e
      rw [if_pos rfl]
      refine ⟨by omega, f5, fun k hk => ?_⟩
      have h0 := jd 0 (by omega)
      rw [show 6 + 0 + 7 * q = 6 + 7 * q by omega] at h0
      by_cases hk2 : k = sN A I n q
      · have hlt : sN A I n q < lnN A I n := by
          unfold s1N at hk
          by_cases h : sN A I n q < lnN A I n
          · exact h
          · rw [if_neg h] at hk; omega
        rw [h0, if_pos hlt, hk2, upd_s, if_pos ⟨rfl, rfl⟩]
        exact ⟨rfl, ee n hn _ hlt⟩
      · have hk3 : k < sN A I n q := by
          unfold s1N at hk
          split at hk <;> omega
        rw [if_neg (fun h => hk2 h.2)]
        have hrow : J2 (A (6 + 7 * q)) k = I (A (6 + 7 * q)) k := by
          rw [h0]
          by_cases h : sN A I n q < lnN A I n
          · rw [if_pos h, upd_n _ _ hk2]
          · rw [if_neg h]
        rw [hrow, (ql k (by omega)).1]
        exact ⟨rfl, ee q hq6 k (by omega)⟩
    · rw [if_neg e]
      refine ⟨y4, ?_, fun k hk => ?_⟩
      · rw [j2 _ (by omega) (by omega) (by omega), qn.2.2.2.2.2.2.2.2.1]; exact y1
      · rw [if_neg (fun h => e h.1), j2 _ (by omega) (by omega) (by omega), (ql k (by omega)).1]
        exact ⟨rfl, ee q hq6 k hk⟩
  have hep : J2 (A (4 + 7 * n)) 6 = I (A 113) n := by rw [j2 _ (by omega) (by omega) (by omega)]; exact sn.2.2.2.2.1
  have ea := C_agreed hs hn lc (by rw [j2 _ (by omega) (by omega) (by omega)]; exact sn.1)
  rw [hep, show LN A I n m n = lnN A I n from by unfold LN; rw [if_neg (fun h => hnm h.symm)]] at ea
  have hag := ag_le (LN A I n m) (EN A I n m) n (I (A 113) n) (lnN A I n)
  have k5 : J2 (A (5 + 7 * n)) 5 = nI (lnN A I n) := by rw [j2 _ (by omega) (by omega) (by omega), sn.2.2.2.2.2.2.2.2.1]; exact v1
  have k6 : J2 (A (5 + 7 * n)) 6 = nI (knN A I n) := by rw [j2 _ (by omega) (by omega) (by omega), sn.2.2.2.2.2.2.2.2.2]; exact v2
  have k6m : J2 (A (5 + 7 * m)) 6 = nI (knN A I m) := by rw [f6, snm.2.2.2.2.2.2.2.2.2]; exact w2
  have lx : imax (J2 (A (5 + 7 * n)) 6) (imin (nI (ag (LN A I n m) (EN A I n m) n (I (A 113) n) (lnN A I n))) (J2 (A (5 + 7 * n)) 5)) = nI (xN A I n m) := by
    rw [k5, k6, imin_n (by omega) (by omega), imax_n (by omega) (by omega)]
    unfold xN
    rw [show min (ag (LN A I n m) (EN A I n m) n (I (A 113) n) (lnN A I n)) (lnN A I n) = ag (LN A I n m) (EN A I n m) n (I (A 113) n) (lnN A I n) by omega]
  have hx60 : xN A I n m ≤ 60 := by unfold xN; omega
  have mn : A (5 + 7 * m) = A (5 + 7 * m) := rfl
  have t5 : up2 J2 (A (5 + 7 * n)) 6 (nI (xN A I n m)) (A (5 + 7 * n)) 6 = nI (xN A I n m) := by rw [V_same, upd_s]
  have t7 : up2 J2 (A (5 + 7 * n)) 6 (nI (xN A I n m)) (A (5 + 7 * m)) = J2 (A (5 + 7 * m)) := V_row hs _ _ _ (by omega) (by omega) (by omega)
  have ly : imax (J2 (A (5 + 7 * m)) 6) (imin (nI (xN A I n m)) (J2 (A (5 + 7 * m)) 5)) = nI (yN A I n m) := by
    rw [f5, k6m, imin_n (by omega) (by omega), imax_n (by omega) (by omega)]
    rfl
  refine ⟨up2 (up2 J2 (A (5 + 7 * n)) 6 (nI (xN A I n m))) (A (5 + 7 * m)) 6 (nI (yN A I n m)), ?_, fun p q1 q2 => ?_, ?_, ?_, ?_, ?_, ?_, fun d hd => ?_⟩
  · have hi : ∀ a, a < 6 → F_Store_isNode R (nI a) I = some 1 := fun a ha => by
      rcases in_node R I (nI a) with ⟨q1, q2⟩ | ⟨n', hn', e, q1, q2⟩
      · rw [bel6 R I ha] at q2; exact absurd q2 (by decide)
      · exact q1
    unfold F_Store_ship F_Store_groupOfNode
    rw [hi n hn, ob_s, if_neg (by decide), hi m hm, ob_s, if_neg (by decide), if_neg (fun h => hnm (nI_inj (by omega) (by omega) h).symm), ob_s, ob_s, nd3 (by omega), nd3 (by omega), hg, if_pos rfl]
    simp only [chk_nI hn (show 6 < 2 ^ 31 by omega), nI_clamp (show n < 2 ^ 31 by omega), chk_nI hm (show 6 < 2 ^ 31 by omega), nI_clamp (show m < 2 ^ 31 by omega), RS, hn, hm]
    rw [if_neg (fun h => (sn.2.1.mp h) hu), if_neg (fun h => (snm.2.1.mp h) hum), if_neg (fun h => hld (sn.2.2.1 ▸ h)), sn.2.2.2.2.1, snm.2.2.2.2.1, if_pos hle, e1, ob_s, e2, ob_s, ea, ob_s]
    unfold F_Log_learn
    rw [ap_s, ob_s, lx, t5, t7, ap_s, ob_s, ly, V_same, upd_n _ _ (by omega), t7, f5]
  · rw [V_row hs _ _ _ (by omega) q1 (by omega), V_row hs _ _ _ (by omega) q1 (by omega), j2 p q1 (by omega) (by omega)]
  · rw [V_row hs _ _ _ (by omega) (by omega) (by omega), V_row hs _ _ _ (by omega) (by omega) (by omega), bt2 _ (by omega) (by omega), r1]
  · rw [V_row hs _ _ _ (by omega) (by omega) (by omega), V_same, upd_n _ _ (by omega), j2 _ (by omega) (by omega) (by omega)]
  · rw [V_row hs _ _ _ (by omega) (by omega) (by omega), t5]
  · rw [V_same, upd_n _ _ (by omega), t7, f5]
  · rw [V_same, upd_s]
  · rw [V_row hs _ _ _ (by omega) (by omega) (by omega), V_row hs _ _ _ (by omega) (by omega) (by omega), jd d hd]
end
