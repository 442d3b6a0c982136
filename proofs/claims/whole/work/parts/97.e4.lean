section
variable {R : Nat → Nat → Nat} {A : Nat → Nat} {I J K : St} {n t g b c : Nat}
theorem i_tick (hs : Sx R A) (h : Inv A I c) (hc : c + 1 ≤ 600) {x : Int32} (h1 : 1 ≤ x.toInt) (h2 : x.toInt ≤ 50) : Inv A (up2 (up2 I (A 3) 1 (I (A 110) 1 + x)) (A 110) 1 (I (A 110) 1 + x)) (c + 1) := by
  obtain ⟨n1, n2, n3, n4⟩ := h.2.1.1
  have hT := h.2.2.1.1.1
  have hv : (I (A 110) 1 + x).toInt = (I (A 110) 1).toInt + x.toInt := ia (by omega) (by omega)
  obtain ⟨K, hK⟩ : ∃ K, K = up2 (up2 I (A 3) 1 (I (A 110) 1 + x)) (A 110) 1 (I (A 110) 1 + x) := ⟨_, rfl⟩
  rw [← hK]
  have r : ∀ p, p < 131 → p ≠ 3 → p ≠ 110 → K (A p) = I (A p) := fun p q1 q2 q3 => by rw [hK, V_row hs _ _ _ (by omega) q1 q3, V_row hs _ _ _ (by omega) q1 q2]
  have r3 : K (A 3) = upd (I (A 3)) 1 (I (A 110) 1 + x) := by rw [hK, V_row hs _ _ _ (by omega) (by omega) (by omega), V_same]
  have r110 : K (A 110) = upd (I (A 110)) 1 (I (A 110) 1 + x) := by rw [hK, V_same, V_row hs _ _ _ (by omega) (by omega) (by omega)]
  have sc := h.1.1.1
  refine h.clock (by omega) hc (fun p hp hP => r p hp (by omega) (by omega)) ⟨?_, ?_, ?_⟩ ?_ ?_ ?_ ?_ ?_
  · rw [r3, r110, upd_n _ _ (by omega), upd_n _ _ (by omega)]; exact sc.1
  · rw [r3, r110, upd_s, upd_s]
  · rw [r 0 (by omega) (by omega) (by omega), r110, upd_n _ _ (by omega)]; exact sc.2.2
  · rw [r110, upd_n _ _ (by omega)]
  · rw [r110, upd_s, hv]; omega
  · rw [r110, upd_s, hv]; omega
  · rw [r110, upd_n _ _ (by omega), ile]; exact Int.le_refl _
  · rw [r110, upd_n _ _ (by omega)]; exact h.2.1.2.2.1
theorem i_begin (hs : Sx R A) (h : Inv A I c) (hb : b < 16) (hbe : I (A 110) 16 = nI b) : Inv A (up2 (up2 I (A 0) 3 (nI (b + 1))) (A 110) 16 (nI (b + 1))) c := by
  obtain ⟨K, hK⟩ : ∃ K, K = up2 (up2 I (A 0) 3 (nI (b + 1))) (A 110) 16 (nI (b + 1)) := ⟨_, rfl⟩
  rw [← hK]
  have r : ∀ p, p < 131 → p ≠ 0 → p ≠ 110 → K (A p) = I (A p) := fun p q1 q2 q3 => by rw [hK, V_row hs _ _ _ (by omega) q1 q3, V_row hs _ _ _ (by omega) q1 q2]
  have r3 : K (A 0) = upd (I (A 0)) 3 (nI (b + 1)) := by rw [hK, V_row hs _ _ _ (by omega) (by omega) (by omega), V_same]
  have r110 : K (A 110) = upd (I (A 110)) 16 (nI (b + 1)) := by rw [hK, V_same, V_row hs _ _ _ (by omega) (by omega) (by omega)]
  have sc := h.1.1.1
  refine h.clock (Nat.le_refl _) h.2.2.1.1.2 (fun p hp hP => r p hp (by omega) (by omega)) ⟨?_, ?_, ?_⟩ ?_ ?_ ?_ ?_ ?_
  · rw [r 3 (by omega) (by omega) (by omega), r110, upd_n _ _ (by omega)]; exact sc.1
  · rw [r 3 (by omega) (by omega) (by omega), r110, upd_n _ _ (by omega)]; exact sc.2.1
  · rw [r3, r110, upd_s, upd_s]
  · rw [r110, upd_n _ _ (by omega)]
  · rw [r110, upd_n _ _ (by omega)]; exact Int.le_refl _
  · rw [r110, upd_n _ _ (by omega)]; exact h.2.2.1.1.1
  · rw [r110, upd_s, hbe]; exact nI_le (by omega) (by omega)
  · rw [r110, upd_s]; exact ⟨b + 1, by omega, rfl⟩
theorem SN.mk9 {m : Nat} (h : SN A I m) (r4 : K (A (4 + 7 * m)) = I (A (4 + 7 * m))) (r5 : K (A (5 + 7 * m)) = I (A (5 + 7 * m))) (rr : ∀ p, 111 ≤ p → p < 120 → K (A p) m = I (A p) m) : SN A K m := by
  unfold SN at h ⊢
  rw [r4, r5, rr 111 (by omega) (by omega), rr 112 (by omega) (by omega), rr 113 (by omega) (by omega), rr 114 (by omega) (by omega), rr 115 (by omega) (by omega), rr 116 (by omega) (by omega), rr 117 (by omega) (by omega), rr 118 (by omega) (by omega), rr 119 (by omega) (by omega)]
  exact h
theorem i_skew (hs : Sx R A) (h : Inv A I c) (hn : n < 6) {s : Int32} (l1 : -(I (A 110) 0) ≤ s) (l2 : s ≤ I (A 110) 0) : Inv A (up2 (up2 I (A (4 + 7 * n)) 5 s) (A 112) n s) c := by
  obtain ⟨K, hK⟩ : ∃ K, K = up2 (up2 I (A (4 + 7 * n)) 5 s) (A 112) n s := ⟨_, rfl⟩
  rw [← hK]
  have r : ∀ p, p < 131 → p ≠ 4 + 7 * n → p ≠ 112 → K (A p) = I (A p) := fun p q1 q2 q3 => by rw [hK, V_row hs _ _ _ (by omega) q1 q3, V_row hs _ _ _ (by omega) q1 q2]
  have r4 : K (A (4 + 7 * n)) = upd (I (A (4 + 7 * n))) 5 s := by rw [hK, V_row hs _ _ _ (by omega) (by omega) (by omega), V_same]
  have r2 : K (A 112) = upd (I (A 112)) n s := by rw [hK, V_same, V_row hs _ _ _ (by omega) (by omega) (by omega)]
  obtain ⟨n1, n2, n3, n4⟩ := h.2.1.1
  refine h.node (fun p hp hP => r p hp (fun e => hP (Or.inl ⟨n, hn, e⟩)) (fun e => hP (Or.inr (Or.inr (Or.inl e))))) (fun m hm => ?_) (fun m hm => ?_) (fun m hm => Or.inl (by rw [r 116 (by omega) (by omega) (by omega)]))
  · have sn := (h.1.1.2 m hm).1
    by_cases e : m = n
    · subst e
      obtain ⟨s0, s3, s4, s5, s6, s7, s8, s9, l5, l6⟩ := sn
      unfold SN
      rw [r4, r2, upd_s, upd_s, upd_n _ _ (show 0 ≠ 5 by omega), upd_n _ _ (show 3 ≠ 5 by omega), upd_n _ _ (show 4 ≠ 5 by omega), upd_n _ _ (show 6 ≠ 5 by omega), upd_n _ _ (show 7 ≠ 5 by omega), upd_n _ _ (show 8 ≠ 5 by omega), upd_n _ _ (show 9 ≠ 5 by omega), r (5 + 7 * m) (by omega) (by omega) (by omega), r 111 (by omega) (by omega) (by omega), r 113 (by omega) (by omega) (by omega), r 114 (by omega) (by omega) (by omega), r 115 (by omega) (by omega) (by omega), r 116 (by omega) (by omega) (by omega), r 117 (by omega) (by omega) (by omega), r 118 (by omega) (by omega) (by omega), r 119 (by omega) (by omega) (by omega)]
      exact ⟨s0, s3, s4, rfl, s6, s7, s8, s9, l5, l6⟩
    · refine sn.mk9 (r _ (by omega) (by omega) (by omega)) (r _ (by omega) (by omega) (by omega)) (fun p q1 q2 => ?_)
      by_cases e2 : p = 112
      · rw [e2, r2, upd_n _ _ e]
      · rw [r p (by omega) (by omega) e2]
  · have ns := (h.2.1.2.1 m hm).1
    unfold NS at ns ⊢
    rw [r 110 (by omega) (by omega) (by omega), r2]
    by_cases e : m = n
    · rw [e, upd_s]
      rw [ile] at l1 l2
      rw [show (-(I (A 110) 0)).toInt = -(I (A 110) 0).toInt from by rw [Int32.toInt_neg]; exact Int.bmod_eq_of_le (by omega) (by omega)] at l1
      exact ⟨l1, l2⟩
    · rw [upd_n _ _ e]; exact ns
theorem i_crash (hs : Sx R A) (h : Inv A I c) (hn : n < 6) : Inv A (up2 (up2 (up2 (up2 I (A (4 + 7 * n)) 3 0) (A (4 + 7 * n)) 4 0) (A 111) n 1) (A 116) n 0) c := by
  obtain ⟨K, hK⟩ : ∃ K, K = up2 (up2 (up2 (up2 I (A (4 + 7 * n)) 3 0) (A (4 + 7 * n)) 4 0) (A 111) n 1) (A 116) n 0 := ⟨_, rfl⟩
  rw [← hK]
  have r : ∀ p, p < 131 → p ≠ 4 + 7 * n → p ≠ 111 → p ≠ 116 → K (A p) = I (A p) := fun p q1 q2 q3 q4 => by rw [hK, V_row hs _ _ _ (by omega) q1 q4, V_row hs _ _ _ (by omega) q1 q3, V_row hs _ _ _ (by omega) q1 q2, V_row hs _ _ _ (by omega) q1 q2]
  have r4 : K (A (4 + 7 * n)) = upd (upd (I (A (4 + 7 * n))) 3 0) 4 0 := by rw [hK, V_row hs _ _ _ (by omega) (by omega) (by omega), V_row hs _ _ _ (by omega) (by omega) (by omega), V_same, V_same]
  have r1 : K (A 111) = upd (I (A 111)) n 1 := by rw [hK, V_row hs _ _ _ (by omega) (by omega) (by omega), V_same, V_row hs _ _ _ (by omega) (by omega) (by omega), V_row hs _ _ _ (by omega) (by omega) (by omega)]
  have r6 : K (A 116) = upd (I (A 116)) n 0 := by rw [hK, V_same, V_row hs _ _ _ (by omega) (by omega) (by omega), V_row hs _ _ _ (by omega) (by omega) (by omega), V_row hs _ _ _ (by omega) (by omega) (by omega)]
  refine h.node (fun p hp hP => r p hp (fun e => hP (Or.inl ⟨n, hn, e⟩)) (fun e => hP (Or.inr (Or.inl e))) (fun e => hP (Or.inr (Or.inr (Or.inr e))))) (fun m hm => ?_) (fun m hm => ?_) (fun m hm => ?_)
  · have sn := (h.1.1.2 m hm).1
    by_cases e : m = n
    · subst e
      obtain ⟨s0, s3, s4, s5, s6, s7, s8, s9, l5, l6⟩ := sn
      unfold SN
      rw [r4, r1, r6, upd_s, upd_s, upd_s, upd_n _ _ (show 0 ≠ 4 by omega), upd_n _ _ (show 3 ≠ 4 by omega), upd_n _ _ (show 5 ≠ 4 by omega), upd_n _ _ (show 6 ≠ 4 by omega), upd_n _ _ (show 7 ≠ 4 by omega), upd_n _ _ (show 8 ≠ 4 by omega), upd_n _ _ (show 9 ≠ 4 by omega), upd_s, upd_n _ _ (show 0 ≠ 3 by omega), upd_n _ _ (show 5 ≠ 3 by omega), upd_n _ _ (show 6 ≠ 3 by omega), upd_n _ _ (show 7 ≠ 3 by omega), upd_n _ _ (show 8 ≠ 3 by omega), upd_n _ _ (show 9 ≠ 3 by omega), r (5 + 7 * m) (by omega) (by omega) (by omega) (by omega), r 112 (by omega) (by omega) (by omega) (by omega), r 113 (by omega) (by omega) (by omega) (by omega), r 114 (by omega) (by omega) (by omega) (by omega), r 115 (by omega) (by omega) (by omega) (by omega), r 117 (by omega) (by omega) (by omega) (by omega), r 118 (by omega) (by omega) (by omega) (by omega), r 119 (by omega) (by omega) (by omega) (by omega)]
      exact ⟨s0, ⟨fun _ => by decide, fun _ => rfl⟩, rfl, s5, s6, s7, s8, s9, l5, l6⟩
    · refine sn.mk9 (r _ (by omega) (by omega) (by omega) (by omega)) (r _ (by omega) (by omega) (by omega) (by omega)) (fun p q1 q2 => ?_)
      by_cases e2 : p = 111
      · rw [e2, r1, upd_n _ _ e]
      · by_cases e3 : p = 116
        · rw [e3, r6, upd_n _ _ e]
        · rw [r p (by omega) (by omega) e2 e3]
  · have ns := (h.2.1.2.1 m hm).1
    unfold NS at ns ⊢
    rw [r 110 (by omega) (by omega) (by omega) (by omega), r 112 (by omega) (by omega) (by omega) (by omega)]
    exact ns
  · rw [r6]
    by_cases e : m = n
    · rw [e, upd_s]; exact Or.inr rfl
    · rw [upd_n _ _ e]; exact Or.inl rfl
theorem i_recover (hs : Sx R A) (h : Inv A I c) (hn : n < 6) : Inv A (up2 (up2 I (A (4 + 7 * n)) 3 1) (A 111) n 0) c := by
  obtain ⟨K, hK⟩ : ∃ K, K = up2 (up2 I (A (4 + 7 * n)) 3 1) (A 111) n 0 := ⟨_, rfl⟩
  rw [← hK]
  have r : ∀ p, p < 131 → p ≠ 4 + 7 * n → p ≠ 111 → K (A p) = I (A p) := fun p q1 q2 q3 => by rw [hK, V_row hs _ _ _ (by omega) q1 q3, V_row hs _ _ _ (by omega) q1 q2]
  have r4 : K (A (4 + 7 * n)) = upd (I (A (4 + 7 * n))) 3 1 := by rw [hK, V_row hs _ _ _ (by omega) (by omega) (by omega), V_same]
  have r1 : K (A 111) = upd (I (A 111)) n 0 := by rw [hK, V_same, V_row hs _ _ _ (by omega) (by omega) (by omega)]
  refine h.node (fun p hp hP => r p hp (fun e => hP (Or.inl ⟨n, hn, e⟩)) (fun e => hP (Or.inr (Or.inl e)))) (fun m hm => ?_) (fun m hm => ?_) (fun m hm => Or.inl (by rw [r 116 (by omega) (by omega) (by omega)]))
  · have sn := (h.1.1.2 m hm).1
    by_cases e : m = n
    · subst e
      obtain ⟨s0, s3, s4, s5, s6, s7, s8, s9, l5, l6⟩ := sn
      unfold SN
      rw [r4, r1, upd_s, upd_s, upd_n _ _ (show 0 ≠ 3 by omega), upd_n _ _ (show 4 ≠ 3 by omega), upd_n _ _ (show 5 ≠ 3 by omega), upd_n _ _ (show 6 ≠ 3 by omega), upd_n _ _ (show 7 ≠ 3 by omega), upd_n _ _ (show 8 ≠ 3 by omega), upd_n _ _ (show 9 ≠ 3 by omega), r (5 + 7 * m) (by omega) (by omega) (by omega), r 112 (by omega) (by omega) (by omega), r 113 (by omega) (by omega) (by omega), r 114 (by omega) (by omega) (by omega), r 115 (by omega) (by omega) (by omega), r 116 (by omega) (by omega) (by omega), r 117 (by omega) (by omega) (by omega), r 118 (by omega) (by omega) (by omega), r 119 (by omega) (by omega) (by omega)]
      exact ⟨s0, ⟨fun q => absurd q (by decide), fun q => absurd rfl q⟩, s4, s5, s6, s7, s8, s9, l5, l6⟩
    · refine sn.mk9 (r _ (by omega) (by omega) (by omega)) (r _ (by omega) (by omega) (by omega)) (fun p q1 q2 => ?_)
      by_cases e2 : p = 111
      · rw [e2, r1, upd_n _ _ e]
      · rw [r p (by omega) (by omega) e2]
  · have ns := (h.2.1.2.1 m hm).1
    unfold NS at ns ⊢
    rw [r 110 (by omega) (by omega) (by omega), r 112 (by omega) (by omega) (by omega)]
    exact ns
theorem i_lead (hs : Sx R A) (h : Inv A I c) (hn : n < 6) : Inv A (up2 (up2 I (A (4 + 7 * n)) 4 0) (A 116) n 0) c := by
  obtain ⟨K, hK⟩ : ∃ K, K = up2 (up2 I (A (4 + 7 * n)) 4 0) (A 116) n 0 := ⟨_, rfl⟩
  rw [← hK]
  have r : ∀ p, p < 131 → p ≠ 4 + 7 * n → p ≠ 116 → K (A p) = I (A p) := fun p q1 q2 q3 => by rw [hK, V_row hs _ _ _ (by omega) q1 q3, V_row hs _ _ _ (by omega) q1 q2]
  have r4 : K (A (4 + 7 * n)) = upd (I (A (4 + 7 * n))) 4 0 := by rw [hK, V_row hs _ _ _ (by omega) (by omega) (by omega), V_same]
  have r6 : K (A 116) = upd (I (A 116)) n 0 := by rw [hK, V_same, V_row hs _ _ _ (by omega) (by omega) (by omega)]
  refine h.node (fun p hp hP => r p hp (fun e => hP (Or.inl ⟨n, hn, e⟩)) (fun e => hP (Or.inr (Or.inr (Or.inr e))))) (fun m hm => ?_) (fun m hm => ?_) (fun m hm => ?_)
  · have sn := (h.1.1.2 m hm).1
    by_cases e : m = n
    · subst e
      obtain ⟨s0, s3, s4, s5, s6, s7, s8, s9, l5, l6⟩ := sn
      unfold SN
      rw [r4, r6, upd_s, upd_s, upd_n _ _ (show 0 ≠ 4 by omega), upd_n _ _ (show 3 ≠ 4 by omega), upd_n _ _ (show 5 ≠ 4 by omega), upd_n _ _ (show 6 ≠ 4 by omega), upd_n _ _ (show 7 ≠ 4 by omega), upd_n _ _ (show 8 ≠ 4 by omega), upd_n _ _ (show 9 ≠ 4 by omega), r (5 + 7 * m) (by omega) (by omega) (by omega), r 111 (by omega) (by omega) (by omega), r 112 (by omega) (by omega) (by omega), r 113 (by omega) (by omega) (by omega), r 114 (by omega) (by omega) (by omega), r 115 (by omega) (by omega) (by omega), r 117 (by omega) (by omega) (by omega), r 118 (by omega) (by omega) (by omega), r 119 (by omega) (by omega) (by omega)]
      exact ⟨s0, s3, rfl, s5, s6, s7, s8, s9, l5, l6⟩
    · refine sn.mk9 (r _ (by omega) (by omega) (by omega)) (r _ (by omega) (by omega) (by omega)) (fun p q1 q2 => ?_)
      by_cases e2 : p = 116
      · rw [e2, r6, upd_n _ _ e]
      · rw [r p (by omega) (by omega) e2]
  · have ns := (h.2.1.2.1 m hm).1
    unfold NS at ns ⊢
    rw [r 110 (by omega) (by omega) (by omega), r 112 (by omega) (by omega) (by omega)]
    exact ns
  · rw [r6]
    by_cases e : m = n
    · rw [e, upd_s]; exact Or.inr rfl
    · rw [upd_n _ _ e]; exact Or.inl rfl
/-- a transaction's state -/
theorem i_st (h : Inv A I c) (ht : t < 16) {s : Nat} (n3 : ¬ I (A 125) t = 3) (s0 : 0 < s) (s5 : s < 5) (lo : s = 1 → LoA A I t) (wr : s = 1 ∨ s = 2 → ¬ I (A 127) t = 0) (rK : ∀ p, p < 131 → p ≠ 46 + 4 * t → p ≠ 125 → K (A p) = I (A p)) (rT : K (A (46 + 4 * t)) = upd (I (A (46 + 4 * t))) 3 (nI s)) (r5 : K (A 125) = upd (I (A 125)) t (nI s)) : Inv A K c := by
  have e130 := rK 130 (by omega) (by omega) (by omega)
  refine h.tx (fun p hp hP => rK p hp (fun e => hP (Or.inr (Or.inr ⟨t, ht, e⟩))) (fun e => hP (Or.inl e))) (fun u hu => ?_) (fun u hu => ?_)
  · by_cases e : u = t
    · subst e
      rw [rT, r5, upd_s, upd_s, upd_n _ _ (show 4 ≠ 3 by omega), e130]
      exact ⟨rfl, (h.1.2 u hu).2.1⟩
    · rw [rK _ (by omega) (by omega) (by omega), r5, upd_n _ _ e, e130]
      exact ⟨(h.1.2 u hu).1, (h.1.2 u hu).2.1⟩
  · by_cases e : u = t
    · subst e
      exact Or.inr ⟨n3, s, s0, s5, by rw [r5, upd_s], lo, wr, Or.inl (by rw [e130])⟩
    · exact Or.inl ⟨by rw [r5, upd_n _ _ e], by rw [e130]⟩
theorem i_st2 (hs : Sx R A) (h : Inv A I c) (ht : t < 16) {s : Nat} {v : Int32} (n3 : ¬ I (A 125) t = 3) (s0 : 0 < s) (s5 : s < 5) (hv : v = nI s) (lo : s = 1 → LoA A I t) (wr : s = 1 ∨ s = 2 → ¬ I (A 127) t = 0) : Inv A (up2 (up2 I (A (46 + 4 * t)) 3 v) (A 125) t v) c := by
  refine i_st h ht n3 s0 s5 lo wr (fun p q1 q2 q3 => ?_) ?_ ?_
  · rw [V_row hs _ _ _ (by omega) q1 q3, V_row hs _ _ _ (by omega) q1 q2]
  · rw [V_row hs _ _ _ (by omega) (by omega) (by omega), V_same, hv]
  · rw [V_same, V_row hs _ _ _ (by omega) (by omega) (by omega), hv]
theorem i_write (hs : Sx R A) (h : Inv A I c) (ht : t < 16) {key : Nat} (hk : key < 8) (h0 : I (A 125) t = 0) {z : Int32} (hz : 0 ≤ z.toInt) : Inv A (up2 (up2 (up2 I (A (48 + 4 * t)) key z) (A 127) t (I (A 127) t ||| ((1 : Int32) <<< (nI key &&& 31)))) (A 128) (8 * t + key) z) c := by
  obtain ⟨K, hK⟩ : ∃ K, K = up2 (up2 (up2 I (A (48 + 4 * t)) key z) (A 127) t (I (A 127) t ||| ((1 : Int32) <<< (nI key &&& 31)))) (A 128) (8 * t + key) z := ⟨_, rfl⟩
  rw [← hK]
  have r : ∀ p, p < 131 → p ≠ 48 + 4 * t → p ≠ 127 → p ≠ 128 → K (A p) = I (A p) := fun p q1 q2 q3 q4 => by rw [hK, V_row hs _ _ _ (by omega) q1 q4, V_row hs _ _ _ (by omega) q1 q3, V_row hs _ _ _ (by omega) q1 q2]
  have r8 : K (A (48 + 4 * t)) = upd (I (A (48 + 4 * t))) key z := by rw [hK, V_row hs _ _ _ (by omega) (by omega) (by omega), V_row hs _ _ _ (by omega) (by omega) (by omega), V_same]
  have r127 : K (A 127) = upd (I (A 127)) t (I (A 127) t ||| ((1 : Int32) <<< (nI key &&& 31))) := by rw [hK, V_row hs _ _ _ (by omega) (by omega) (by omega), V_same, V_row hs _ _ _ (by omega) (by omega) (by omega)]
  have r128 : K (A 128) = upd (I (A 128)) (8 * t + key) z := by rw [hK, V_same, V_row hs _ _ _ (by omega) (by omega) (by omega), V_row hs _ _ _ (by omega) (by omega) (by omega)]
  have hz1 : ¬ z = -1 := fun e => by rw [e, tm1] at hz; omega
  refine h.data (fun p hp hP => r p hp (fun e => hP (Or.inl ⟨t, ht, by omega⟩)) (fun e => hP (Or.inr (by omega))) (fun e => hP (Or.inr (by omega)))) (fun u hu => ?_) (fun u hu => ?_)
  · obtain ⟨q1, q2, q3, q4⟩ := h.1.2 u hu
    unfold RdG at q4
    unfold SX RdG
    rw [r (46 + 4 * u) (by omega) (by omega) (by omega) (by omega), r (47 + 4 * u) (by omega) (by omega) (by omega) (by omega), r (49 + 4 * u) (by omega) (by omega) (by omega) (by omega), r 125 (by omega) (by omega) (by omega) (by omega), r 126 (by omega) (by omega) (by omega) (by omega), r 129 (by omega) (by omega) (by omega) (by omega), r 130 (by omega) (by omega) (by omega) (by omega)]
    refine ⟨q1, q2, fun k hk8 => ?_, q4⟩
    obtain ⟨w1, w2, w3⟩ := q3 k hk8
    refine ⟨w1, ?_⟩
    rw [r127, r128]
    by_cases e : u = t
    · subst e
      rw [r8, upd_s, bs _ (by omega) (by omega)]
      by_cases e2 : k = key
      · subst e2
        rw [upd_s, upd_s]
        refine ⟨⟨fun q => absurd q hz1, fun q => ?_⟩, fun _ => rfl⟩
        simp at q
      · rw [upd_n _ _ e2, upd_n _ _ (by omega)]
        simp only [e2, decide_false, Bool.or_false]
        exact ⟨w2, w3⟩
    · rw [r _ (by omega) (by omega) (by omega) (by omega), upd_n _ _ e, upd_n _ _ (by omega)]
      exact ⟨w2, w3⟩
  · rw [r127]
    by_cases e : u = t
    · subst e
      refine Or.inr ⟨h0, fun i hi => ?_⟩
      rw [upd_s]
      by_cases h32 : i < 32
      · rw [bs _ (by omega) h32, (h.2.2.2.2 u hu).2.2.2.2.1 i hi]
        simp only [Bool.false_or, decide_eq_false_iff_not]
        omega
      · exact b_big (by omega)
    · rw [upd_n _ _ e]; exact Or.inl rfl
end
