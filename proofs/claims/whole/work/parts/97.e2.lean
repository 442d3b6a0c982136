section
variable {R : Nat → Nat → Nat} {A : Nat → Nat} {I J K : St} {n t g b c : Nat}
/-- the rows of the entries after one more -/
theorem Pt.ent {ln : Nat} {ep st kd ow ou : Int32} (h : Pt A I K n ln ep st kd ow ou) : (∀ m k, k < 60 → (m ≠ n ∨ k ≠ ln) → K (A 120) (60 * m + k) = I (A 120) (60 * m + k) ∧ K (A 121) (60 * m + k) = I (A 121) (60 * m + k) ∧ K (A 122) (60 * m + k) = I (A 122) (60 * m + k) ∧ K (A 123) (60 * m + k) = I (A 123) (60 * m + k) ∧ K (A 124) (60 * m + k) = I (A 124) (60 * m + k)) ∧ K (A 120) (60 * n + ln) = ep ∧ K (A 121) (60 * n + ln) = st ∧ K (A 122) (60 * n + ln) = kd ∧ K (A 123) (60 * n + ln) = ow ∧ K (A 124) (60 * n + ln) = ou := by
  obtain ⟨hm, hb, hl, h8, -, c8, c0, c1, c2, c3, c4⟩ := h
  refine ⟨fun m k hk hne => ?_, by rw [c0, upd_s], by rw [c1, upd_s], by rw [c2, upd_s], by rw [c3, upd_s], by rw [c4, upd_s]⟩
  have hx : 60 * m + k ≠ 60 * n + ln := by omega
  rw [c0, c1, c2, c3, c4, upd_n _ _ hx, upd_n _ _ hx, upd_n _ _ hx, upd_n _ _ hx, upd_n _ _ hx]
  exact ⟨rfl, rfl, rfl, rfl, rfl⟩
theorem Pt.pu {ln : Nat} {st kd ow ou : Int32} (h : Pt A I K n ln (I (A 113) n) st kd ow ou) (hl : ¬ I (A 116) n = 0) : Pu (aE A I) (aL A I) (aN A I) (aN A K) (aV A I) (aV A K) n ∧ aN A I n = ln ∧ aV A K n ln = ((I (A 113) n).toInt, st.toInt, kd.toInt, ow.toInt, ou.toInt) ∧ aE A K = aE A I ∧ aL A K = aL A I ∧ aK A K = aK A I := by
  obtain ⟨x, n0, n1, n2, n3, n4⟩ := h.ent
  obtain ⟨hm, hb, hl60, h8, -, c8, -⟩ := h
  have hN : aN A I n = ln := by
    unfold aN lnN
    rw [if_pos hm, h8, nI_clamp (by omega)]
  have hV : aV A K n ln = ((I (A 113) n).toInt, st.toInt, kd.toInt, ow.toInt, ou.toInt) := by
    unfold aV
    rw [if_pos hl60, n0, n1, n2, n3, n4]
  refine ⟨⟨⟨hm, hl⟩, ?_, fun m hne => ?_, fun m j hmj => ?_, ?_⟩, hN, hV, ?_, ?_, ?_⟩
  · rw [hN]
    unfold aN lnN
    rw [if_pos hm, c8, upd_s, nI_clamp (by omega)]
  · unfold aN lnN
    rw [c8, upd_n _ _ hne]
  · rw [hN] at hmj
    unfold aV
    by_cases hj : j < 60
    · obtain ⟨z0, z1, z2, z3, z4⟩ := x m j hj hmj
      rw [if_pos hj, if_pos hj, z0, z1, z2, z3, z4]
    · rw [if_neg hj, if_neg hj]
  · rw [hN, hV]
    unfold aE
    rw [if_pos hm]
  · funext m; unfold aE; rw [hb 113 (by omega) (by omega)]
  · funext m; unfold aL; rw [hb 116 (by omega) (by omega)]
  · funext m; unfold aK knN; rw [hb 119 (by omega) (by omega)]
/-- an entry of a leader -/
theorem Inv.pt {ln : Nat} {st kd ow ou : Int32} (h : Inv A I c) (p : Pt A I K n ln (I (A 113) n) st kd ow ou) (hl : ¬ I (A 116) n = 0) (hst : 0 ≤ st.toInt) (hle : ¬ I (A 117) n ≤ st) (hou : -1 ≤ ou.toInt ∧ ou.toInt ≤ (I (A 110) 1).toInt + 40) (hk3 : ¬ kd = 3 → ou = -1) (hown : (kd = 0 ∧ ow = -1) ∨ ∃ t, t < 16 ∧ ow = nI t ∧ nI t < I (A 110) 16 ∧ ¬ I (A 125) t = 0 ∧ (kd = 2 → ¬ I (A 125) t = 1) ∧ (kd = 1 ∨ kd = 2 → ¬ HasE A I n kd (nI t))) : Inv A K c := by
  obtain ⟨⟨sa, sxs⟩, nu, nm, gl, tr⟩ := h
  obtain ⟨pu, hN, hV, eE, eL, eK⟩ := p.pu hl
  obtain ⟨x, n0, n1, n2, n3, n4⟩ := p.ent
  obtain ⟨hn, hb, hl60, h8, ⟨k5, k6, k7, k8, k9, k10⟩, c8, -⟩ := p
  have lI : lnN A I n = ln := by unfold lnN; rw [h8, nI_clamp (by omega)]
  have lK : lnN A K n = ln + 1 := by unfold lnN; rw [c8, upd_s, nI_clamp (by omega)]
  have lM : ∀ m, m ≠ n → lnN A K m = lnN A I m := fun m hm => by unfold lnN; rw [c8, upd_n _ _ hm]
  have cs : ∀ m j, m < 6 → j < lnN A K m → (m = n ∧ j = ln) ∨ (j < lnN A I m ∧ j < 60 ∧ (m ≠ n ∨ j ≠ ln)) := fun m j hm hj => by
    have h60 := (sa.2 m hm).2.2.s.2.2.2
    by_cases e : m = n
    · subst e
      rw [lK] at hj
      by_cases e2 : j = ln
      · exact Or.inl ⟨rfl, e2⟩
      · exact Or.inr ⟨by omega, by omega, Or.inr e2⟩
    · rw [lM m e] at hj
      exact Or.inr ⟨hj, by omega, Or.inl e⟩
  have hT := nu.1.2.2.2
  have hT0 := nu.1.2.2.1
  have hle2 : st.toInt ≤ (I (A 110) 1).toInt + 40 := by
    have h1 := (nm.2 n hn).2.2.1
    rw [ile] at hle
    omega
  have hkO : ∀ t w, t < 16 → (w = 1 ∨ w = 2) → kd = w → ow = nI t → ¬ HasE A I n w (nI t) ∧ (w = 2 → ¬ I (A 125) t = 1) := fun t w ht hw e1 e2 => by
    rcases hown with ⟨q1, q2⟩ | ⟨t', q1, q2, q3, q4, q5, q6⟩
    · exfalso
      rw [q1] at e1
      rcases hw with hw | hw <;> rw [hw] at e1 <;> exact absurd e1 (by decide)
    · have e : t' = t := nI_inj (by omega) (by omega) (q2.symm.trans e2)
      subst e
      exact ⟨by rw [← e1]; exact q6 (by rw [e1]; exact hw), fun e => q5 (by rw [e1, e])⟩
  have e110 := hb 110 (by omega) (by omega)
  refine ⟨⟨⟨sa.1.cg hb (by omega) (by omega) (by omega), fun m hm => ?_⟩, fun t ht => (sxs t ht).cg hb ht (fun d hd => by omega) (fun p q1 q2 => by omega)⟩, ⟨nu.1.cg hb (by omega), fun m hm => ⟨(nu.2.1 m hm).1.cg hb (by omega) (by omega), fun j hj => ?_, fun j hj => ?_⟩, ?_, ?_⟩, ⟨?_, fun m hm => ?_⟩, ?_, fun t ht => ?_⟩
  · obtain ⟨sn, sl, vn⟩ := sa.2 m hm
    obtain ⟨s0, s3, s4, s5, s6, s7, s8, s9, l5, l6⟩ := sn
    have r4 := hb (4 + 7 * m) (by omega) (by omega)
    by_cases e : m = n
    · subst e
      refine ⟨?_, fun k hk => ?_, ?_⟩
      · unfold SN
        rw [r4, k5, upd_s, upd_n _ _ (show 6 ≠ 5 by omega), c8, upd_s, hb 111 (by omega) (by omega), hb 112 (by omega) (by omega), hb 113 (by omega) (by omega), hb 114 (by omega) (by omega), hb 115 (by omega) (by omega), hb 116 (by omega) (by omega), hb 117 (by omega) (by omega), hb 119 (by omega) (by omega)]
        exact ⟨s0, s3, s4, s5, s6, s7, s8, s9, rfl, l6⟩
      · by_cases e2 : k = ln
        · subst e2
          rw [k6, k7, k8, k9, k10, upd_s, upd_s, upd_s, upd_s, upd_s, n0, n1, n2, n3, n4]
          exact ⟨rfl, rfl, rfl, rfl, rfl⟩
        · obtain ⟨z0, z1, z2, z3, z4⟩ := x m k hk (Or.inr e2)
          rw [k6, k7, k8, k9, k10, upd_n _ _ e2, upd_n _ _ e2, upd_n _ _ e2, upd_n _ _ e2, upd_n _ _ e2, z0, z1, z2, z3, z4]
          exact sl k hk
      · obtain ⟨v1, v2, v3, v4⟩ := vn.s
        refine ⟨ln + 1, knN A I m, by rw [c8, upd_s], by rw [hb 119 (by omega) (by omega)]; exact v2, by omega, by omega⟩
    · refine ⟨?_, fun k hk => ?_, ?_⟩
      · unfold SN
        rw [r4, hb (5 + 7 * m) (by omega) (by omega), c8, upd_n _ _ e, hb 111 (by omega) (by omega), hb 112 (by omega) (by omega), hb 113 (by omega) (by omega), hb 114 (by omega) (by omega), hb 115 (by omega) (by omega), hb 116 (by omega) (by omega), hb 117 (by omega) (by omega), hb 119 (by omega) (by omega)]
        exact ⟨s0, s3, s4, s5, s6, s7, s8, s9, l5, l6⟩
      · obtain ⟨z0, z1, z2, z3, z4⟩ := x m k hk (Or.inl e)
        rw [hb (6 + 7 * m) (by omega) (by omega), hb (7 + 7 * m) (by omega) (by omega), hb (8 + 7 * m) (by omega) (by omega), hb (9 + 7 * m) (by omega) (by omega), hb (10 + 7 * m) (by omega) (by omega), z0, z1, z2, z3, z4]
        exact sl k hk
      · unfold VN
        rw [c8, upd_n _ _ e, hb 119 (by omega) (by omega)]
        exact vn
  · rcases cs m j hm hj with ⟨e1, e2⟩ | ⟨q1, q2, q3⟩
    · subst e1; subst e2
      rw [n1, n2, n4]
      exact ⟨hst, by omega, hou.1, by omega, hk3⟩
    · obtain ⟨z0, z1, z2, z3, z4⟩ := x m j q2 q3
      rw [z1, z2, z4]
      exact (nu.2.1 m hm).2.1 j q1
  · rcases cs m j hm hj with ⟨e1, e2⟩ | ⟨q1, q2, q3⟩
    · subst e1; subst e2
      rw [n2, n3, e110]
      intro hk
      rcases hown with ⟨w1, w2⟩ | ⟨t, w1, w2, w3, w4⟩
      · exact absurd w1 hk
      · exact ⟨t, w1, w2, w3⟩
    · obtain ⟨z0, z1, z2, z3, z4⟩ := x m j q2 q3
      rw [z2, z3, e110]
      exact (nu.2.1 m hm).2.2 j q1
  · rw [e110]; exact nu.2.2.1
  · rw [hb 125 (by omega) (by omega), hb 127 (by omega) (by omega), hb 130 (by omega) (by omega)]; exact nu.2.2.2
  · rw [e110]; exact nm.1
  · rw [e110, hb 113 (by omega) (by omega), hb 116 (by omega) (by omega), hb 117 (by omega) (by omega)]
    obtain ⟨w1, w2, w3, w4⟩ := nm.2 m hm
    refine ⟨w1, w2, w3, fun j hj => ?_⟩
    rcases cs m j hm hj with ⟨e1, e2⟩ | ⟨q1, q2, q3⟩
    · subst e1; subst e2
      obtain ⟨e, he, he2⟩ := w1
      rw [n0, n1, n4]
      refine ⟨?_, hle2, hou.2⟩
      have hc := nm.1.2
      rw [he2, nI_toInt (by omega)]
      omega
    · obtain ⟨z0, z1, z2, z3, z4⟩ := x m j q2 q3
      rw [z0, z1, z4]
      exact w4 j q1
  · unfold GL
    rw [eE, eL, eK, e110, hb 114 (by omega) (by omega), hb 115 (by omega) (by omega), hb 117 (by omega) (by omega)]
    obtain ⟨g1, g2, g3, g4⟩ := gl
    have un : ∀ t w, t < 16 → (w = 1 ∨ w = 2) → Un (aN A I) (aV A I) (Ck w (nI t)) → Un (aN A K) (aV A K) (Ck w (nI t)) := fun t w ht hw u => by
      refine Un.put pu (fun hC i hi hCi => ?_) u
      rw [hN] at hC hi
      rw [hV] at hC
      have e1 : kd = w := ieq.mpr hC.1
      have e2 : ow = nI t := ieq.mpr hC.2
      refine (hkO t w ht hw e1 e2).1 ⟨i, by show i < lnN A I n; omega, ?_⟩
      unfold aV at hCi
      rw [if_pos (show i < 60 by omega)] at hCi
      exact ⟨ieq.mpr hCi.1, ieq.mpr hCi.2⟩
    exact ⟨g1.put pu, fun y => (g2 y).put pu, g3.put pu, fun t ht => ⟨un t 1 ht (Or.inl rfl) (g4 t ht).1, un t 2 ht (Or.inr rfl) (g4 t ht).2⟩⟩
  · obtain ⟨t1, t2, t3, t4, t5, t6, t7⟩ := tr t ht
    unfold TrT
    rw [e110, hb 125 (by omega) (by omega), hb 127 (by omega) (by omega), hb 130 (by omega) (by omega)]
    refine ⟨t1, fun e m j hm hj => ?_, fun e => ?_, t4, t5, t6, t7⟩
    · rcases cs m j hm hj with ⟨e1, e2⟩ | ⟨q1, q2, q3⟩
      · subst e1; subst e2
        rw [n3]
        intro e3
        rcases hown with ⟨w1, w2⟩ | ⟨t', w1, w2, w3, w4, w5⟩
        · exact nI_nm1 (by omega) (e3.symm.trans w2)
        · have e5 : t' = t := nI_inj (by omega) (by omega) (w2.symm.trans e3)
          subst e5
          exact w4 e
      · obtain ⟨z0, z1, z2, z3, z4⟩ := x m j q2 q3
        rw [z3]; exact t2 e m j hm q1
    · unfold LoA
      rw [eE, eL]
      refine Lo.put pu (fun hq hC => ?_) (t3 e)
      rw [hN, hV] at hC
      exact (hkO t 2 ht (Or.inr rfl) (ieq.mpr hC.1) (ieq.mpr hC.2)).2 rfl e
end
