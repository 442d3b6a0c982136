section
variable {R : Nat → Nat → Nat} {A : Nat → Nat} {I J K : St} {n m t g b c : Nat}
theorem ag_s (L : Nat → Nat) (E : Nat → Nat → Int32) (n : Nat) (ep : Int32) : ∀ p, ag L E n ep p = 0 ∨ ∃ q, q < p ∧ ag L E n ep p = q + 1 ∧ Ag L E n ep q := by
  intro p
  induction p with
  | zero => exact Or.inl rfl
  | succ p ih =>
    unfold ag
    by_cases h : Ag L E n ep p
    · rw [cif_t h]; exact Or.inr ⟨p, by omega, rfl, h⟩
    · rw [cif_f h]
      rcases ih with e | ⟨q, q1, q2, q3⟩
      · exact Or.inl e
      · exact Or.inr ⟨q, by omega, q2, q3⟩
theorem sN_s : (∀ k, k < sN A I n m → I (A 120) (60 * m + k) = I (A 120) (60 * n + k)) ∧ (sN A I n m = lnN A I n ∨ sN A I n m = lnN A I m ∨ ¬ I (A 120) (60 * m + sN A I n m) = I (A 120) (60 * n + sN A I n m)) := by
  have h := smF_b (a := fun k => I (A 120) (60 * m + k)) (b := fun k => I (A 120) (60 * n + k)) (l := min (lnN A I n) (lnN A I m)) (min (lnN A I n) (lnN A I m)) 0 (by omega) (by omega)
  refine ⟨fun k hk => h.2.2.1 k (by omega) hk, ?_⟩
  by_cases c : sN A I n m < min (lnN A I n) (lnN A I m)
  · exact Or.inr (Or.inr (h.2.2.2 c))
  · have h2 : sN A I n m ≤ min (lnN A I n) (lnN A I m) := h.2.1
    rcases (show sN A I n m = lnN A I n ∨ sN A I n m = lnN A I m by omega) with e | e
    · exact Or.inl e
    · exact Or.inr (Or.inl e)
theorem i_ship (h : Inv A I c) (hn : n < 6) (hm : m < 6) (hnm : m ≠ n) (hg : m / 3 = n / 3) (hld : ¬ I (A 116) n = 0) (hE : I (A 113) m ≤ I (A 113) n) (sh : ShE A I K n m) : Inv A K c := by
  obtain ⟨⟨J, ⟨bJ, j4, j5a, j5b, j5c, j5d, jr⟩, kJ⟩, kr, k113, k116, k118, k119, kd⟩ := sh
  obtain ⟨⟨sa, sxs⟩, nu, nm, gl, tr⟩ := h
  obtain ⟨vn1, vn2, vn3, vn4⟩ := (sa.2 n hn).2.2.s
  obtain ⟨vm1, vm2, vm3, vm4⟩ := (sa.2 m hm).2.2.s
  obtain ⟨sb1, sb2, sb3⟩ := sN_b (A := A) (I := I) (n := n) (m := m)
  obtain ⟨ss1, ss2⟩ := sN_s (A := A) (I := I) (n := n) (m := m)
  have hs1 : s1N A I n m = if sN A I n m < lnN A I n then sN A I n m + 1 else sN A I n m := rfl
  obtain ⟨s, hs⟩ : ∃ s, s = sN A I n m := ⟨_, rfl⟩
  obtain ⟨s1, hs1e⟩ : ∃ s1, s1 = s1N A I n m := ⟨_, rfl⟩
  have hEN : ∀ q k, EN A I n m q k = if q = m ∧ k = sN A I n m then I (A 120) (60 * n + k) else I (A 120) (60 * q + k) := fun q k => rfl
  have hLN : ∀ q, LN A I n m q = if q = m then s1N A I n m else lnN A I q := fun q => rfl
  rw [← hs] at sb1 sb2 ss1 ss2 hs1
  rw [← hs1e] at sb3 hs1
  simp only [← hs, ← hs1e] at hEN hLN jr kd j5c k118
  have k0 : ∀ p, 110 ≤ p → p < 131 → ¬ (113 ≤ p ∧ p < 125) → K (A p) = I (A p) := fun p q1 q2 q3 => kr p q1 q2 (by omega)
  have kr2 : ∀ p, (p = 114 ∨ p = 115 ∨ p = 117) → K (A p) = I (A p) := fun p q => kr p (by omega) (by omega) (by omega)
  have cl : ∀ p, p < 110 → p ≠ 4 + 7 * m → p ≠ 5 + 7 * n → ¬ (5 + 7 * m ≤ p ∧ p < 11 + 7 * m) → K (A p) = I (A p) := fun p q1 q2 q3 q4 => by rw [kJ p q1]; exact bJ p (by omega) (by omega)
  have bK : Bt A I K (fun p => (4 ≤ p ∧ p < 46) ∨ (113 ≤ p ∧ p < 125)) := fun p hp hP => by
    by_cases c : p < 110
    · exact cl p c (by omega) (by omega) (by omega)
    · exact k0 p (by omega) hp (by omega)
  -- entries
  have ent : ∀ q j, j < 60 → (q ≠ m ∨ j ≠ s ∨ ¬ s < lnN A I n) → ∀ d, d < 5 → K (A (120 + d)) (60 * q + j) = I (A (120 + d)) (60 * q + j) := fun q j hj hne d hd => by
    rw [kd d hd]
    by_cases c : s < lnN A I n
    · rw [if_pos c, upd_n _ _ (by omega)]
    · rw [if_neg c]
  have entm : s < lnN A I n → ∀ d, d < 5 → K (A (120 + d)) (60 * m + s) = I (A (120 + d)) (60 * n + s) := fun c d hd => by
    rw [kd d hd, if_pos c, upd_s]
  have lK : ∀ q, q ≠ m → lnN A K q = lnN A I q := fun q hq => by unfold lnN; rw [k118, if_neg hq]
  have lKm : lnN A K m = s1 := by unfold lnN; rw [k118, if_pos rfl, nI_clamp (by omega)]
  have src : ∀ q j, q < 6 → j < lnN A K q → ∃ z, z < 6 ∧ z / 3 = q / 3 ∧ j < lnN A I z ∧ ∀ d, d < 5 → K (A (120 + d)) (60 * q + j) = I (A (120 + d)) (60 * z + j) := fun q j hq hj => by
    have h60 := (sa.2 q hq).2.2.s.2.2.2
    by_cases e : q = m
    · rw [e, lKm, hs1] at hj
      by_cases c : s < lnN A I n
      · rw [if_pos c] at hj
        by_cases e2 : j = s
        · exact ⟨n, hn, by rw [e]; exact hg.symm, by omega, fun d hd => by rw [e, e2]; exact entm c d hd⟩
        · exact ⟨m, hm, by rw [e], by omega, fun d hd => by rw [e]; exact ent m j (by omega) (Or.inr (Or.inl e2)) d hd⟩
      · rw [if_neg c] at hj
        exact ⟨m, hm, by rw [e], by omega, fun d hd => by rw [e]; exact ent m j (by omega) (Or.inr (Or.inr c)) d hd⟩
    · rw [lK q e] at hj
      exact ⟨q, hq, rfl, hj, fun d hd => ent q j (by omega) (Or.inl e) d hd⟩
  -- m leads no more
  have ld0 : ldN A I n m = 0 := by
    unfold ldN
    by_cases c : I (A 113) m = I (A 113) n
    · rw [if_pos c]
      refine Classical.byContradiction fun q => hnm ?_
      exact same_lead gl.1.2.2.2.2.1 hg ⟨hm, q⟩ ⟨hn, hld⟩ (by unfold aE; rw [if_pos hm, if_pos hn, c])
    · rw [if_neg c]
  rw [ld0] at k116 j4
  have eEm : aE A K m = aE A I n := by unfold aE; rw [if_pos hm, if_pos hn, k113, upd_s]
  have eEx : ∀ x, x ≠ m → aE A K x = aE A I x := fun x hx => by unfold aE; rw [k113, upd_n _ _ hx]
  have eLm : ¬ aL A K m := fun q => q.2 (by rw [k116, upd_s])
  have eLx : ∀ x, x ≠ m → (aL A K x ↔ aL A I x) := fun x hx => by unfold aL; rw [k116, upd_n _ _ hx]
  have aNn : aN A I n = lnN A I n := by unfold aN; rw [if_pos hn]
  have aNm : aN A I m = lnN A I m := by unfold aN; rw [if_pos hm]
  have aV1 : ∀ q j, j < 60 → (aV A I q j).1 = (I (A 120) (60 * q + j)).toInt := fun q j hj => by unfold aV; rw [if_pos hj]
  have aV2 : ∀ q j, j < 60 → (aV A K q j).1 = (K (A 120) (60 * q + j)).toInt := fun q j hj => by unfold aV; rw [if_pos hj]
  have aVe : ∀ q z j, j < 60 → (∀ d, d < 5 → K (A (120 + d)) (60 * q + j) = I (A (120 + d)) (60 * z + j)) → aV A K q j = aV A I z j := fun q z j hj hd => by
    have d0 : K (A 120) (60 * q + j) = I (A 120) (60 * z + j) := hd 0 (by omega)
    have d1 : K (A 121) (60 * q + j) = I (A 121) (60 * z + j) := hd 1 (by omega)
    have d2 : K (A 122) (60 * q + j) = I (A 122) (60 * z + j) := hd 2 (by omega)
    have d3 : K (A 123) (60 * q + j) = I (A 123) (60 * z + j) := hd 3 (by omega)
    have d4 : K (A 124) (60 * q + j) = I (A 124) (60 * z + j) := hd 4 (by omega)
    unfold aV
    rw [if_pos hj, if_pos hj, d0, d1, d2, d3, d4]
  have aVb : ∀ q j, ¬ j < 60 → aV A K q j = aV A I q j := fun q j hj => by unfold aV; rw [if_neg hj, if_neg hj]
  have sS : Sh (aE A I) (aE A K) (aL A I) (aL A K) (aN A I) (aN A K) (aV A I) (aV A K) n m s := by
    refine ⟨⟨⟨hn, hld⟩, hnm.symm, hg.symm, ?_, eEm, eEx, eLm, fun x hx => ?_⟩, ⟨by rw [aNn]; exact sb1, by rw [aNm]; exact sb2, fun j hj => ?_, ?_, ?_, fun j hj => ?_, fun hk => ?_⟩, fun x hx => ?_, fun x j hx => ?_⟩
    · unfold aE
      rw [if_pos hm, if_pos hn]
      rw [ile] at hE
      exact hE
    · by_cases e : x = m
      · rw [e] at hx; exact absurd hx eLm
      · exact (eLx x e).mp hx
    · rw [aV1 n j (by omega), aV1 m j (by omega), ss1 j hj]
    · rw [aNn, aNm]
      rcases ss2 with q | q | q
      · exact Or.inl q
      · exact Or.inr (Or.inl q)
      · by_cases c : s < 60
        · refine Or.inr (Or.inr ?_)
          rw [aV1 n s c, aV1 m s c]
          exact fun e => q (ieq.mpr e.symm)
        · exact Or.inl (by omega)
    · rw [aNn]
      show (if m < 6 then lnN A K m else 0) = _
      rw [if_pos hm, lKm, hs1]
    · exact aVe m m j (by omega) (ent m j (by omega) (Or.inr (Or.inl (by omega))))
    · rw [aNn] at hk
      exact aVe m n s (by omega) (entm hk)
    · unfold aN
      rw [lK x hx]
    · by_cases c : j < 60
      · exact aVe x x j c (ent x j c (Or.inl hx))
      · exact aVb x j c
  have rf' := gl.1.ship sS
  have kw0 := Kw.ship sS gl.1 gl.2.1
  have pre := sS.pre gl.1.1
  have aKn : aK A I n = knN A I n := by unfold aK; rw [if_pos hn]
  have aKm : aK A I m = knN A I m := by unfold aK; rw [if_pos hm]
  have aNKm : aN A K m = s1 := by unfold aN; rw [if_pos hm, lKm]
  have agl := ag_le (LN A I n m) (EN A I n m) n (I (A 113) n) (lnN A I n)
  have ags := ag_s (LN A I n m) (EN A I n m) n (I (A 113) n) (lnN A I n)
  have hx : xN A I n m = max (knN A I n) (ag (LN A I n m) (EN A I n m) n (I (A 113) n) (lnN A I n)) := rfl
  have hy : yN A I n m = max (knN A I m) (min (xN A I n m) (s1N A I n m)) := rfl
  obtain ⟨x, hxe⟩ : ∃ x, x = xN A I n m := ⟨_, rfl⟩
  obtain ⟨y, hye⟩ : ∃ y, y = yN A I n m := ⟨_, rfl⟩
  obtain ⟨a, hae⟩ : ∃ a, a = ag (LN A I n m) (EN A I n m) n (I (A 113) n) (lnN A I n) := ⟨_, rfl⟩
  rw [← hae] at agl ags hx
  rw [← hxe] at hx hy k119 j5b
  rw [← hye] at hy k119 j5d
  rw [← hs1e] at hy
  have kms : knN A I m ≤ s1 := by
    by_cases c : 0 < knN A I m
    · have := (kw0 m (by rw [aKm]; exact c)).1
      rw [aKm, aNKm] at this
      exact this
    · omega
  have aKKn : aK A K n = x := by unfold aK knN; rw [if_pos hn, k119, upd_n _ _ hnm.symm, upd_s, nI_clamp (by omega)]
  have aKKm : aK A K m = y := by unfold aK knN; rw [if_pos hm, k119, upd_s, nI_clamp (by omega)]
  have kwn : Kw (aE A K) (aL A K) (aN A K) (aV A K) (aK A K) n := by
    by_cases c : a ≤ knN A I n
    · exact Kw.cong (by rw [aKKn, aKn]; clear ags; omega) (kw0 n)
    · rcases ags with e | ⟨p, q1, q2, q3, q, r1, r2, r3, r4⟩
      · omega
      · have hq6 : q < 6 := by omega
        have hp60 : p < 60 := by omega
        have hKE : K (A 120) (60 * q + p) = EN A I n m q p := by
          rw [hEN]
          rw [hLN] at r3
          by_cases e : q = m ∧ p = s
          · rw [if_pos e, e.1, e.2]
            rw [if_pos e.1, hs1] at r3
            have c2 : s < lnN A I n := by
              by_cases c2 : s < lnN A I n
              · exact c2
              · rw [if_neg c2] at r3; omega
            exact entm c2 0 (by omega)
          · rw [if_neg e]
            refine ent q p hp60 ?_ 0 (by omega)
            by_cases e1 : q = m
            · exact Or.inr (Or.inl (fun e2 => e ⟨e1, e2⟩))
            · exact Or.inl e1
        refine Kw.learn (kn := aK A I) (m := q) (i := p) rf' ((eLx n hnm.symm).mpr ⟨hn, hld⟩) r1.symm (fun e => r2 e.symm) ?_ ?_ (by rw [aKKn]; omega)
        · unfold aN
          rw [if_pos hq6]
          rw [hLN] at r3
          by_cases e : q = m
          · rw [if_pos e] at r3
            rw [e, lKm]; exact r3
          · rw [if_neg e] at r3
            rw [lK q e]; exact r3
        · rw [aV2 q p hp60, hKE, r4, q3, eEx n hnm.symm]
          unfold aE
          rw [if_pos hn]
  have kwm : Kw (aE A K) (aL A K) (aN A K) (aV A K) (aK A K) m := by
    by_cases c : min x s1 ≤ knN A I m
    · exact Kw.cong (by rw [aKKm, aKm]; clear ags; omega) (kw0 m)
    · refine Kw.follow kwn hg.symm (by rw [eEm, eEx n hnm.symm]; exact Int.le_refl _) (by rw [aKKm, aKKn]; clear ags; omega) (by rw [aKKm, aNKm]; clear ags; omega) (fun j h1 h2 => ?_) ?_
      · rw [pre.2.2.2.1 j h1]
        by_cases c : j < 60
        · exact (aVe n n j c (ent n j c (Or.inl hnm.symm))).symm
        · exact (aVb n j c).symm
      · have : aN A K n = aN A I n := by unfold aN; rw [lK n hnm.symm]
        rw [this]; exact pre.2.2.1
  have eKx : ∀ q, q ≠ m → q ≠ n → aK A K q = aK A I q := fun q q1 q2 => by unfold aK knN; rw [k119, upd_n _ _ q1, upd_n _ _ q2]
  have gl2 : GL A K := by
    unfold GL
    rw [k0 110 (by omega) (by omega) (by omega), kr2 114 (by omega), kr2 115 (by omega), kr2 117 (by omega)]
    refine ⟨rf', fun q => ?_, gl.2.2.1.ship sS gl.1.1, fun t ht => ⟨(gl.2.2.2 t ht).1.ship sS gl.1.1, (gl.2.2.2 t ht).2.ship sS gl.1.1⟩⟩
    by_cases e : q = m
    · rw [e]; exact kwm
    · by_cases e2 : q = n
      · rw [e2]; exact kwn
      · exact Kw.cong (eKx q e e2) (kw0 q)
  have hb110 := k0 110 (by omega) (by omega) (by omega)
  have e5 : ∀ q j z, (∀ d, d < 5 → K (A (120 + d)) (60 * q + j) = I (A (120 + d)) (60 * z + j)) → K (A 120) (60 * q + j) = I (A 120) (60 * z + j) ∧ K (A 121) (60 * q + j) = I (A 121) (60 * z + j) ∧ K (A 122) (60 * q + j) = I (A 122) (60 * z + j) ∧ K (A 123) (60 * q + j) = I (A 123) (60 * z + j) ∧ K (A 124) (60 * q + j) = I (A 124) (60 * z + j) := fun q j z hd => ⟨hd 0 (by omega), hd 1 (by omega), hd 2 (by omega), hd 3 (by omega), hd 4 (by omega)⟩
  refine ⟨⟨⟨sa.1.cg bK (by omega) (by omega) (by omega), fun q hq => ⟨?_, fun k hk => ?_, ?_⟩⟩, fun t ht => (sxs t ht).cg bK ht (fun d hd => by omega) (fun p q1 q2 => by omega)⟩, ⟨nu.1.cg bK (by omega), fun q hq => ⟨(nu.2.1 q hq).1.cg bK (by omega) (by omega), fun j hj => ?_, fun j hj hk => ?_⟩, ?_, ?_⟩, ⟨?_, fun q hq => ?_⟩, gl2, fun t ht => ?_⟩
  · have sn := (sa.2 q hq).1
    obtain ⟨s0, s3, s4, s5, s6, s7, s8, s9, l5, l6⟩ := sn
    by_cases e : q = m
    · subst e
      unfold SN
      rw [kJ (4 + 7 * q) (by omega), kJ (5 + 7 * q) (by omega), j4, j5c, j5d, k113, k116, k118, k119, upd_s, upd_s, upd_s, upd_s, if_pos rfl, kr2 114 (by omega), kr2 115 (by omega), kr2 117 (by omega), k0 111 (by omega) (by omega) (by omega), k0 112 (by omega) (by omega) (by omega), upd_n _ _ (show 0 ≠ 4 by omega), upd_n _ _ (show 3 ≠ 4 by omega), upd_n _ _ (show 5 ≠ 4 by omega), upd_n _ _ (show 6 ≠ 4 by omega), upd_n _ _ (show 7 ≠ 4 by omega), upd_n _ _ (show 8 ≠ 4 by omega), upd_n _ _ (show 9 ≠ 4 by omega), upd_s, upd_n _ _ (show 0 ≠ 6 by omega), upd_n _ _ (show 3 ≠ 6 by omega), upd_n _ _ (show 5 ≠ 6 by omega), upd_n _ _ (show 7 ≠ 6 by omega), upd_n _ _ (show 8 ≠ 6 by omega), upd_n _ _ (show 9 ≠ 6 by omega)]
      exact ⟨s0, s3, rfl, s5, rfl, s7, s8, s9, rfl, rfl⟩
    · have r4 : K (A (4 + 7 * q)) = I (A (4 + 7 * q)) := cl _ (by omega) (by omega) (by omega) (by omega)
      by_cases e2 : q = n
      · subst e2
        unfold SN
        rw [r4, kJ (5 + 7 * q) (by omega), j5a, j5b, k113, k116, k118, k119, upd_n _ _ e, upd_n _ _ e, upd_n _ _ e, upd_s, if_neg e, kr2 114 (by omega), kr2 115 (by omega), kr2 117 (by omega), k0 111 (by omega) (by omega) (by omega), k0 112 (by omega) (by omega) (by omega)]
        exact ⟨s0, s3, s4, s5, s6, s7, s8, s9, l5, rfl⟩
      · refine SN.mk9 ⟨s0, s3, s4, s5, s6, s7, s8, s9, l5, l6⟩ r4 (cl _ (by omega) (by omega) (by omega) (by omega)) (fun p q1 q2 => ?_)
        by_cases c1 : p = 113
        · rw [c1, k113, upd_n _ _ e]
        · by_cases c2 : p = 116
          · rw [c2, k116, upd_n _ _ e]
          · by_cases c3 : p = 118
            · rw [c3, k118, if_neg e]
            · by_cases c4 : p = 119
              · rw [c4, k119, upd_n _ _ e, upd_n _ _ e2]
              · rw [kr p (by omega) (by omega) (by omega)]
  · have sl := (sa.2 q hq).2.1 k hk
    by_cases e : q = m
    · subst e
      have w0 : K (A (6 + 7 * q)) = if s < lnN A I n then upd (I (A (6 + 7 * q))) s (I (A 120) (60 * n + s)) else I (A (6 + 7 * q)) := by rw [kJ _ (by omega)]; exact jr 0 (by omega)
      have w1 : K (A (7 + 7 * q)) = if s < lnN A I n then upd (I (A (7 + 7 * q))) s (I (A 121) (60 * n + s)) else I (A (7 + 7 * q)) := by rw [kJ _ (by omega)]; exact jr 1 (by omega)
      have w2 : K (A (8 + 7 * q)) = if s < lnN A I n then upd (I (A (8 + 7 * q))) s (I (A 122) (60 * n + s)) else I (A (8 + 7 * q)) := by rw [kJ _ (by omega)]; exact jr 2 (by omega)
      have w3 : K (A (9 + 7 * q)) = if s < lnN A I n then upd (I (A (9 + 7 * q))) s (I (A 123) (60 * n + s)) else I (A (9 + 7 * q)) := by rw [kJ _ (by omega)]; exact jr 3 (by omega)
      have w4 : K (A (10 + 7 * q)) = if s < lnN A I n then upd (I (A (10 + 7 * q))) s (I (A 124) (60 * n + s)) else I (A (10 + 7 * q)) := by rw [kJ _ (by omega)]; exact jr 4 (by omega)
      by_cases c : s < lnN A I n
      · rw [if_pos c] at w0 w1 w2 w3 w4
        by_cases e2 : k = s
        · obtain ⟨z0, z1, z2, z3, z4⟩ := e5 q s n (entm c)
          rw [e2, w0, w1, w2, w3, w4, upd_s, upd_s, upd_s, upd_s, upd_s, z0, z1, z2, z3, z4]
          exact ⟨rfl, rfl, rfl, rfl, rfl⟩
        · obtain ⟨z0, z1, z2, z3, z4⟩ := e5 q k q (ent q k hk (Or.inr (Or.inl e2)))
          rw [w0, w1, w2, w3, w4, upd_n _ _ e2, upd_n _ _ e2, upd_n _ _ e2, upd_n _ _ e2, upd_n _ _ e2, z0, z1, z2, z3, z4]
          exact sl
      · rw [if_neg c] at w0 w1 w2 w3 w4
        obtain ⟨z0, z1, z2, z3, z4⟩ := e5 q k q (ent q k hk (Or.inr (Or.inr c)))
        rw [w0, w1, w2, w3, w4, z0, z1, z2, z3, z4]
        exact sl
    · obtain ⟨z0, z1, z2, z3, z4⟩ := e5 q k q (ent q k hk (Or.inl e))
      rw [cl (6 + 7 * q) (by omega) (by omega) (by omega) (by omega), cl (7 + 7 * q) (by omega) (by omega) (by omega) (by omega), cl (8 + 7 * q) (by omega) (by omega) (by omega) (by omega), cl (9 + 7 * q) (by omega) (by omega) (by omega) (by omega), cl (10 + 7 * q) (by omega) (by omega) (by omega) (by omega), z0, z1, z2, z3, z4]
      exact sl
  · by_cases e : q = m
    · rw [e]
      exact ⟨s1, y, by rw [k118, if_pos rfl], by rw [k119, upd_s], by omega, by omega⟩
    · obtain ⟨v1, v2, v3, v4⟩ := (sa.2 q hq).2.2.s
      by_cases e2 : q = n
      · rw [e2]
        exact ⟨lnN A I n, x, by rw [k118, if_neg hnm.symm]; exact vn1, by rw [k119, upd_n _ _ hnm.symm, upd_s], by clear ags; omega, vn4⟩
      · exact ⟨lnN A I q, knN A I q, by rw [k118, if_neg e]; exact v1, by rw [k119, upd_n _ _ e, upd_n _ _ e2]; exact v2, v3, v4⟩
  · obtain ⟨z, hz, -, hj2, hd⟩ := src q j hq hj
    obtain ⟨z0, z1, z2, z3, z4⟩ := e5 q j z hd
    rw [z1, z2, z4]
    exact (nu.2.1 z hz).2.1 j hj2
  · obtain ⟨z, hz, -, hj2, hd⟩ := src q j hq hj
    obtain ⟨z0, z1, z2, z3, z4⟩ := e5 q j z hd
    rw [z2] at hk
    rw [z3, hb110]
    exact (nu.2.1 z hz).2.2 j hj2 hk
  · rw [hb110]; exact nu.2.2.1
  · rw [k0 125 (by omega) (by omega) (by omega), k0 127 (by omega) (by omega) (by omega), k0 130 (by omega) (by omega) (by omega)]; exact nu.2.2.2
  · rw [hb110]; exact nm.1
  · obtain ⟨w1, w2, w3, w4⟩ := nm.2 q hq
    rw [hb110, k113, k116, kr2 117 (by omega)]
    refine ⟨?_, ?_, w3, fun j hj => ?_⟩
    · by_cases e : q = m
      · rw [e, upd_s]; exact (nm.2 n hn).1
      · rw [upd_n _ _ e]; exact w1
    · by_cases e : q = m
      · rw [e, upd_s]; exact Or.inl rfl
      · rw [upd_n _ _ e]; exact w2
    · obtain ⟨z, hz, -, hj2, hd⟩ := src q j hq hj
      obtain ⟨z0, z1, z2, z3, z4⟩ := e5 q j z hd
      rw [z0, z1, z4]
      exact (nm.2 z hz).2.2.2 j hj2
  · obtain ⟨t1, t2, t3, t4, t5, t6, t7⟩ := tr t ht
    unfold TrT
    rw [hb110, k0 125 (by omega) (by omega) (by omega), k0 127 (by omega) (by omega) (by omega), k0 130 (by omega) (by omega) (by omega)]
    refine ⟨t1, fun e q j hq hj => ?_, fun e => ?_, t4, t5, t6, t7⟩
    · obtain ⟨z, hz, -, hj2, hd⟩ := src q j hq hj
      obtain ⟨z0, z1, z2, z3, z4⟩ := e5 q j z hd
      rw [z3]
      exact t2 e z j hz hj2
    · have lo := t3 e
      unfold LoA at lo ⊢
      exact lo.ship sS gl.1
end
