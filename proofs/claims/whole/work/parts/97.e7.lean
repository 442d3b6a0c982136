section
variable {R : Nat → Nat → Nat} {A : Nat → Nat} {I J K : St} {n t g b c : Nat}
theorem nE_m {e n : Nat} (hn : n < 6) : e < nE e n ∧ nE e n ≤ e + 3 ∧ nE e n % 3 = n % 3 := by
  unfold nE
  by_cases h : (n + 3 - e % 3) % 3 = 0
  · rw [if_pos h]; omega
  · rw [if_neg h]; omega
/-- the last epochs and lengths let m vote for n -/
theorem beh_l (h : Inv A I c) {m : Nat} (hn : n < 6) (hm : m < 6) (hb : ¬ Beh A I n m) : aN A I m = 0 ∨ (0 < aN A I n ∧ ((aV A I m (aN A I m - 1)).1 < (aV A I n (aN A I n - 1)).1 ∨ ((aV A I m (aN A I m - 1)).1 = (aV A I n (aN A I n - 1)).1 ∧ aN A I m ≤ aN A I n))) := by
  obtain ⟨v1, v2, v3, v4⟩ := (h.1.1.2 n hn).2.2.s
  obtain ⟨w1, w2, w3, w4⟩ := (h.1.1.2 m hm).2.2.s
  have an : aN A I n = lnN A I n := by unfold aN; rw [if_pos hn]
  have am : aN A I m = lnN A I m := by unfold aN; rw [if_pos hm]
  have lz : ∀ q, q < 6 → I (A 118) q = nI (lnN A I q) → lnN A I q ≤ 60 → (I (A 118) q = 0 ↔ lnN A I q = 0) := fun q hq e1 e2 => by
    rw [e1]
    exact ⟨fun e => nI_inj (b := 0) (by omega) (by omega) e, fun e => by rw [e]; rfl⟩
  have le1 : ∀ q, q < 6 → lnN A I q ≤ 60 → I (A 118) q = nI (lnN A I q) → 0 < lnN A I q → (lE A I q).toInt = (aV A I q (lnN A I q - 1)).1 := fun q hq e1 e2 e3 => by
    unfold lE aV
    rw [if_neg (fun e => by have := (lz q hq e2 e1).mp e; omega), if_pos (show lnN A I q - 1 < 60 by omega)]
    rfl
  rw [an, am]
  by_cases c0 : lnN A I m = 0
  · exact Or.inl c0
  · have em := le1 m hm w4 w1 (by omega)
    have pm0 : 0 ≤ (aV A I m (lnN A I m - 1)).1 := by
      have := ((h.2.2.1.2 m hm).2.2.2 (lnN A I m - 1) (by omega)).1
      unfold aV
      rw [if_pos (show lnN A I m - 1 < 60 by omega)]
      exact this
    have hlen : I (A 118) m ≤ I (A 118) n ↔ lnN A I m ≤ lnN A I n := by
      rw [ile, v1, w1, nI_toInt (by omega), nI_toInt (by omega)]
      omega
    have h1 : ¬ lE A I n < lE A I m := fun e => hb (Or.inl e)
    have h2 : lE A I n = lE A I m → lnN A I m ≤ lnN A I n := fun e => Classical.byContradiction fun q => hb (Or.inr ⟨e, fun w => q (hlen.mp w)⟩)
    rw [ilt] at h1
    by_cases c1 : lnN A I n = 0
    · exfalso
      have e0 : lE A I n = 0 := by unfold lE; rw [if_pos ((lz n hn v1 v4).mpr c1)]
      have : lE A I n = lE A I m := by
        rw [ieq]
        rw [e0, t0] at h1 ⊢
        omega
      have := h2 this
      omega
    · have en := le1 n hn v4 v1 (by omega)
      refine Or.inr ⟨by omega, ?_⟩
      by_cases c2 : (aV A I m (lnN A I m - 1)).1 < (aV A I n (lnN A I n - 1)).1
      · exact Or.inl c2
      · refine Or.inr ⟨by omega, h2 (by rw [ieq]; omega)⟩
theorem i_elect (hs : Sx R A) (h : Inv A I c) (hc : c + 1 ≤ 600) (hn : n < 6) {e : Nat} (he1 : e ≤ 100000) (he : I (A 113) n = nI e) (el : ElE A I K n (nI (nE e n))) : Inv A K (c + 1) := by
  obtain ⟨k1, k2, k3, k4, k5, k6, k7⟩ := el
  obtain ⟨X, xa, xb⟩ := mid hs I K hn
  have he3 : e ≤ 3 * c := by
    obtain ⟨e', q1, q2⟩ := (h.2.2.1.2 n hn).1
    have : e = e' := nI_inj (by omega) (by omega) (he.symm.trans q2)
    omega
  obtain ⟨m1, m2, m3⟩ := nE_m (e := e) hn
  obtain ⟨N, hN⟩ : ∃ N, N = nE e n := ⟨_, rfl⟩
  rw [← hN] at k2 k4 k5 k6 k7 m1 m2 m3
  have tN : (nI N).toInt = N := nI_toInt (by omega)
  have x4 : ∀ p, 110 ≤ p → p < 131 → ¬ (113 ≤ p ∧ p < 118) → X (A p) = I (A p) := fun p q1 q2 q3 => by
    by_cases e : p = 118 ∨ (120 ≤ p ∧ p < 125)
    · exact xa p (Or.inr e)
    · rw [xb p q2 (by omega)]; exact k3 p q1 q2 (by omega) (by omega)
  have x1 : ∀ p, p < 110 → (∀ m, n / 3 = m / 3 → p ≠ 4 + 7 * m) → X (A p) = I (A p) := fun p q1 q2 => by
    by_cases e : 5 + 7 * n ≤ p ∧ p < 11 + 7 * n
    · exact xa p (Or.inl e)
    · rw [xb p (by omega) (by omega)]; exact k1 p q1 q2 e
  have xm : ∀ m, m < 6 → X (A (4 + 7 * m)) = K (A (4 + 7 * m)) := fun m hm => xb _ (by omega) (by omega)
  have xk : ∀ p, 113 ≤ p → p < 118 → X (A p) = K (A p) := fun p q1 q2 => xb p (by omega) (by omega)
  have hin : ∀ j, (3 * (n / 3) ≤ j ∧ j < 3 * (n / 3) + 3 ∧ Gt A I n (nI N) j) ↔ (j / 3 = n / 3 ∧ Gt A I n (nI N) j) := fun j => ⟨fun ⟨a, b, c⟩ => ⟨by omega, c⟩, fun ⟨a, c⟩ => ⟨by omega, by omega, c⟩⟩
  have p4 : ∀ j, (j / 3 = n / 3 ∧ Gt A I n (nI N) j) → X (A 113) j = nI N ∧ X (A 114) j = pm A I j ∧ X (A 115) j = nI n := fun j hj => by
    rw [xk 113 (by omega) (by omega), xk 114 (by omega) (by omega), xk 115 (by omega) (by omega), k4, k5, k6, cif_t ((hin j).mpr hj), cif_t ((hin j).mpr hj), cif_t ((hin j).mpr hj)]; exact ⟨rfl, rfl, rfl⟩
  have p5 : ∀ j, ¬ (j / 3 = n / 3 ∧ Gt A I n (nI N) j) → X (A 113) j = I (A 113) j ∧ X (A 114) j = I (A 114) j ∧ X (A 115) j = I (A 115) j := fun j hj => by
    rw [xk 113 (by omega) (by omega), xk 114 (by omega) (by omega), xk 115 (by omega) (by omega), k4, k5, k6, cif_f (fun q => hj ((hin j).mp q)), cif_f (fun q => hj ((hin j).mp q)), cif_f (fun q => hj ((hin j).mp q))]; exact ⟨rfl, rfl, rfl⟩
  have gl := h.2.2.2.1
  have eN : aN A X = aN A I := by funext m; unfold aN lnN; rw [x4 118 (by omega) (by omega) (by omega)]
  have eK : aK A X = aK A I := by funext m; unfold aK knN; rw [x4 119 (by omega) (by omega) (by omega)]
  have eV : aV A X = aV A I := by funext m j; unfold aV; rw [x4 120 (by omega) (by omega) (by omega), x4 121 (by omega) (by omega) (by omega), x4 122 (by omega) (by omega) (by omega), x4 123 (by omega) (by omega) (by omega), x4 124 (by omega) (by omega) (by omega)]
  have eS : ∀ m, (m / 3 = n / 3 ∧ Gt A I n (nI N) m) → aE A I m < N ∧ aE A X m = N := fun m hm => by
    have hm6 : m < 6 := by omega
    have hx := hm.2.2.1
    unfold aE
    rw [if_pos hm6, if_pos hm6, (p4 m hm).1, tN]
    rw [ile, tN] at hx
    exact ⟨by omega, rfl⟩
  have eS2 : ∀ m, ¬ (m / 3 = n / 3 ∧ Gt A I n (nI N) m) → aE A X m = aE A I m := fun m hm => by
    unfold aE
    rw [(p5 m hm).1]
  have hE : ∀ m, aE A I m ≤ aE A X m := fun m => by
    by_cases q : m / 3 = n / 3 ∧ Gt A I n (nI N) m
    · have := eS m q; omega
    · rw [eS2 m q]; exact Int.le_refl _
  have gr : Gr (I (A 110) 1).toInt (aE A I) (aE A X) (fun n => (I (A 114) n).toInt) (fun n => (X (A 114) n).toInt) (fun n => (I (A 115) n).toInt) (fun n => (X (A 115) n).toInt) (fun m => m / 3 = n / 3 ∧ Gt A I n (nI N) m) n := by
    refine ⟨fun m hm => ?_, fun m hm => ?_⟩
    · have hm6 : m < 6 := by have := hm.1; omega
      refine ⟨?_, ?_, hE m, ?_⟩
      · show (X (A 115) m).toInt = n
        rw [(p4 m hm).2.2, nI_t6 hn]
      · show (I (A 114) m).toInt ≤ (X (A 114) m).toInt
        rw [(p4 m hm).2.1]; exact (pm_t h hm6).1
      · show (I (A 115) m).toInt = -1 ∨ (I (A 115) m).toInt = n ∨ (I (A 114) m).toInt < (I (A 110) 1).toInt
        rcases hm.2.2.2.1 with q | q | q
        · rw [q, tm1]; exact Or.inl rfl
        · rw [q, nI_t6 hn]; exact Or.inr (Or.inl rfl)
        · rw [ilt] at q
          have := (ear_t h hm6).1
          exact Or.inr (Or.inr (by omega))
    · refine ⟨?_, ?_, eS2 m hm⟩
      · show (X (A 115) m).toInt = (I (A 115) m).toInt
        rw [(p5 m hm).2.2]
      · show (X (A 114) m).toInt = (I (A 114) m).toInt
        rw [(p5 m hm).2.1]
  have r5 : ∀ m, m < 6 → X (A (5 + 7 * m)) = I (A (5 + 7 * m)) := fun m hm => x1 _ (by omega) (fun m' _ => by omega)
  have snS : ∀ m, m < 6 → (m / 3 = n / 3 ∧ Gt A I n (nI N) m) → X (A (4 + 7 * m)) = rE A I n (nI N) m → X (A 116) m = 0 → X (A 117) m = I (A 117) m → SN A X m := fun m hm hS q4 q6 q7 => by
    obtain ⟨s0, s3, s4, s5, s6, s7, s8, s9, l5, l6⟩ := (h.1.1.2 m hm).1
    unfold SN
    rw [q4, q6, q7, (p4 m hS).1, (p4 m hS).2.1, (p4 m hS).2.2, r5 m hm, x4 111 (by omega) (by omega) (by omega), x4 112 (by omega) (by omega) (by omega), x4 118 (by omega) (by omega) (by omega), x4 119 (by omega) (by omega) (by omega)]
    unfold rE
    rw [upd_s, upd_n _ _ (show 0 ≠ 9 by omega), upd_n _ _ (show 3 ≠ 9 by omega), upd_n _ _ (show 4 ≠ 9 by omega), upd_n _ _ (show 5 ≠ 9 by omega), upd_n _ _ (show 6 ≠ 9 by omega), upd_n _ _ (show 7 ≠ 9 by omega), upd_n _ _ (show 8 ≠ 9 by omega), upd_s, upd_n _ _ (show 0 ≠ 8 by omega), upd_n _ _ (show 3 ≠ 8 by omega), upd_n _ _ (show 4 ≠ 8 by omega), upd_n _ _ (show 5 ≠ 8 by omega), upd_n _ _ (show 6 ≠ 8 by omega), upd_n _ _ (show 7 ≠ 8 by omega), upd_s, upd_n _ _ (show 0 ≠ 4 by omega), upd_n _ _ (show 3 ≠ 4 by omega), upd_n _ _ (show 5 ≠ 4 by omega), upd_n _ _ (show 6 ≠ 4 by omega), upd_n _ _ (show 7 ≠ 4 by omega), upd_s, upd_n _ _ (show 0 ≠ 6 by omega), upd_n _ _ (show 3 ≠ 6 by omega), upd_n _ _ (show 5 ≠ 6 by omega), upd_n _ _ (show 7 ≠ 6 by omega)]
    exact ⟨s0, s3, rfl, s5, rfl, s7, rfl, Or.inl rfl, l5, l6⟩
  have snN : ∀ m, m < 6 → ¬ (m / 3 = n / 3 ∧ Gt A I n (nI N) m) → X (A (4 + 7 * m)) = I (A (4 + 7 * m)) → X (A 116) m = I (A 116) m → X (A 117) m = I (A 117) m → SN A X m := fun m hm hS q4 q6 q7 => by
    refine (h.1.1.2 m hm).1.mk9 q4 (r5 m hm) (fun p w1 w2 => ?_)
    by_cases c : 113 ≤ p ∧ p < 118
    · rcases (show p = 113 ∨ p = 114 ∨ p = 115 ∨ p = 116 ∨ p = 117 by omega) with e | e | e | e | e <;> subst e
      · exact (p5 m hS).1
      · exact (p5 m hS).2.1
      · exact (p5 m hS).2.2
      · exact q6
      · exact q7
    · rw [x4 p (by omega) (by omega) c]
  have bX : Bt A I X (fun p => (∃ m, m < 6 ∧ p = 4 + 7 * m) ∨ (113 ≤ p ∧ p < 118)) := fun p hp hP => by
    by_cases c : p < 110
    · exact x1 p c (fun m hm q => hP (Or.inl ⟨m, by omega, q⟩))
    · exact x4 p (by omega) hp (fun q => hP (Or.inr q))
  have neX : ∀ m, m < 6 → ∃ e, e ≤ 3 * (c + 1) ∧ X (A 113) m = nI e := fun m hm => by
    by_cases q : m / 3 = n / 3 ∧ Gt A I n (nI N) m
    · exact ⟨N, by omega, (p4 m q).1⟩
    · obtain ⟨e', q1, q2⟩ := (h.2.2.1.2 m hm).1
      exact ⟨e', by omega, by rw [(p5 m q).1]; exact q2⟩
  have out : ∀ m, m < 6 → m / 3 ≠ n / 3 → X (A (4 + 7 * m)) = I (A (4 + 7 * m)) := fun m hm q => x1 _ (by omega) (fun m' hm' e => by omega)
  rcases k7 with ⟨hne, y4, y6, y7, pe⟩ | ⟨hel, y4, y6, y7, pe⟩
  · have z6 : ∀ j, (j / 3 = n / 3 ∧ Gt A I n (nI N) j) → X (A 116) j = 0 := fun j hj => by rw [xk 116 (by omega) (by omega), y6, cif_t ((hin j).mpr hj)]
    have z6' : ∀ j, ¬ (j / 3 = n / 3 ∧ Gt A I n (nI N) j) → X (A 116) j = I (A 116) j := fun j hj => by rw [xk 116 (by omega) (by omega), y6, cif_f (fun q => hj ((hin j).mp q))]
    have z7 : X (A 117) = I (A 117) := by rw [xk 117 (by omega) (by omega), y7]
    have rowg : ∀ m, m < 6 → m / 3 = n / 3 → X (A (4 + 7 * m)) = cif (Gt A I n (nI N) m) (rE A I n (nI N) m) (I (A (4 + 7 * m))) := fun m hm q => by
      rw [xm m hm]
      by_cases e : m = n
      · rw [e]; exact y4
      · exact k2 m q.symm e
    have hl : ∀ m, aL A X m → aL A I m ∧ aE A X m = aE A I m := fun m hm => by
      have hS : ¬ (m / 3 = n / 3 ∧ Gt A I n (nI N) m) := fun q => hm.2 (z6 m q)
      exact ⟨⟨hm.1, by rw [← z6' m hS]; exact hm.2⟩, eS2 m hS⟩
    have iX : Inv A X (c + 1) := by
      refine h.lease (by omega) hc bX (fun m hm => ?_) neX (fun m hm => ?_) (fun m hm => ?_) ?_ (fun t ht l => ?_)
      · by_cases g3 : m / 3 = n / 3
        · by_cases hG : Gt A I n (nI N) m
          · exact snS m hm ⟨g3, hG⟩ (by rw [rowg m hm g3, cif_t hG]) (z6 m ⟨g3, hG⟩) (by rw [z7])
          · exact snN m hm (fun q => hG q.2) (by rw [rowg m hm g3, cif_f hG]) (z6' m (fun q => hG q.2)) (by rw [z7])
        · exact snN m hm (fun q => g3 q.1) (out m hm g3) (z6' m (fun q => g3 q.1)) (by rw [z7])
      · by_cases q : m / 3 = n / 3 ∧ Gt A I n (nI N) m
        · exact Or.inl (z6 m q)
        · rw [z6' m q]; exact (h.2.2.1.2 m hm).2.1
      · rw [z7]; exact (h.2.2.1.2 m hm).2.2.1
      · unfold GL
        rw [eN, eK, eV, z7, x4 110 (by omega) (by omega) (by omega)]
        exact ⟨gl.1.raise hE hl, fun y => (gl.2.1 y).raise hE hl, gl.2.2.1.raise gr hl, gl.2.2.2⟩
      · unfold LoA at l ⊢
        rw [eN, eV]
        exact l.raise hl
    refine iX.rows (fun p hp _ => ?_)
    by_cases e : (5 + 7 * n ≤ p ∧ p < 11 + 7 * n) ∨ p = 118 ∨ (120 ≤ p ∧ p < 125)
    · rw [xa p e]
      rcases e with e | e | e
      · exact pe.1 p e.1 e.2
      · rw [e]; exact pe.2.1
      · exact pe.2.2 p e.1 e.2
    · exact (xb p hp e).symm
  · obtain ⟨gn, b, hb3, hbn, gb⟩ := hel
    have z6n : X (A 116) n = 1 := by rw [xk 116 (by omega) (by omega), y6, if_pos rfl]
    have z6 : ∀ j, j ≠ n → (j / 3 = n / 3 ∧ Gt A I n (nI N) j) → X (A 116) j = 0 := fun j hj0 hj => by rw [xk 116 (by omega) (by omega), y6, if_neg hj0, cif_t ((hin j).mpr hj)]
    have z6' : ∀ j, j ≠ n → ¬ (j / 3 = n / 3 ∧ Gt A I n (nI N) j) → X (A 116) j = I (A 116) j := fun j hj0 hj => by rw [xk 116 (by omega) (by omega), y6, if_neg hj0, cif_f (fun q => hj ((hin j).mp q))]
    have z7 : X (A 117) = upd (I (A 117)) n (Ear A I n + 40) := by rw [xk 117 (by omega) (by omega), y7]
    have sS : n / 3 = n / 3 ∧ Gt A I n (nI N) n := ⟨rfl, gn⟩
    have el : El (aE A I) (aE A X) (aL A I) (aL A X) (aN A I) (aV A I) (fun m => m / 3 = n / 3 ∧ Gt A I n (nI N) m) n b N := by
      refine ⟨sS, ⟨hb3, gb⟩, hbn, by omega, fun m hm => ⟨hm.1, (eS m hm).1, (eS m hm).2, beh_l h hn (by have := hm.1; omega) hm.2.2.2.2⟩, eS2, fun m hm => ?_⟩
      by_cases e : m = n
      · exact Or.inl e
      · have hS : ¬ (m / 3 = n / 3 ∧ Gt A I n (nI N) m) := fun q => hm.2 (z6 m e q)
        exact Or.inr ⟨⟨hm.1, by rw [← z6' m e hS]; exact hm.2⟩, hS⟩
    obtain ⟨et1, et2⟩ := ear_t h hn
    have iX : Inv A X (c + 1) := by
      refine h.lease (by omega) hc bX (fun m hm => ?_) neX (fun m hm => ?_) (fun m hm => ?_) ?_ (fun t ht l => ?_)
      · by_cases e : m = n
        · subst e
          obtain ⟨s0, s3, s4, s5, s6, s7, s8, s9, l5, l6⟩ := (h.1.1.2 m hm).1
          unfold SN
          rw [xm m hm, y4, z6n, z7, upd_s, (p4 m sS).1, (p4 m sS).2.1, (p4 m sS).2.2, r5 m hm, x4 111 (by omega) (by omega) (by omega), x4 112 (by omega) (by omega) (by omega), x4 118 (by omega) (by omega) (by omega), x4 119 (by omega) (by omega) (by omega)]
          unfold rE
          rw [upd_s, upd_n _ _ (show 0 ≠ 7 by omega), upd_n _ _ (show 3 ≠ 7 by omega), upd_n _ _ (show 4 ≠ 7 by omega), upd_n _ _ (show 5 ≠ 7 by omega), upd_n _ _ (show 6 ≠ 7 by omega), upd_n _ _ (show 8 ≠ 7 by omega), upd_n _ _ (show 9 ≠ 7 by omega), upd_s, upd_n _ _ (show 0 ≠ 4 by omega), upd_n _ _ (show 3 ≠ 4 by omega), upd_n _ _ (show 5 ≠ 4 by omega), upd_n _ _ (show 6 ≠ 4 by omega), upd_n _ _ (show 8 ≠ 4 by omega), upd_n _ _ (show 9 ≠ 4 by omega), upd_s, upd_n _ _ (show 0 ≠ 9 by omega), upd_n _ _ (show 3 ≠ 9 by omega), upd_n _ _ (show 5 ≠ 9 by omega), upd_n _ _ (show 6 ≠ 9 by omega), upd_n _ _ (show 8 ≠ 9 by omega), upd_s, upd_n _ _ (show 0 ≠ 8 by omega), upd_n _ _ (show 3 ≠ 8 by omega), upd_n _ _ (show 5 ≠ 8 by omega), upd_n _ _ (show 6 ≠ 8 by omega), upd_n _ _ (show 0 ≠ 4 by omega), upd_n _ _ (show 3 ≠ 4 by omega), upd_n _ _ (show 5 ≠ 4 by omega), upd_n _ _ (show 6 ≠ 4 by omega), upd_s, upd_n _ _ (show 0 ≠ 6 by omega), upd_n _ _ (show 3 ≠ 6 by omega), upd_n _ _ (show 5 ≠ 6 by omega)]
          exact ⟨s0, s3, rfl, s5, rfl, rfl, rfl, Or.inl rfl, l5, l6⟩
        · have z7m : X (A 117) m = I (A 117) m := by rw [z7, upd_n _ _ e]
          by_cases g3 : m / 3 = n / 3
          · have rw4 : X (A (4 + 7 * m)) = cif (Gt A I n (nI N) m) (rE A I n (nI N) m) (I (A (4 + 7 * m))) := by rw [xm m hm]; exact k2 m g3.symm e
            by_cases hG : Gt A I n (nI N) m
            · exact snS m hm ⟨g3, hG⟩ (by rw [rw4, cif_t hG]) (z6 m e ⟨g3, hG⟩) z7m
            · exact snN m hm (fun q => hG q.2) (by rw [rw4, cif_f hG]) (z6' m e (fun q => hG q.2)) z7m
          · exact snN m hm (fun q => g3 q.1) (out m hm g3) (z6' m e (fun q => g3 q.1)) z7m
      · by_cases e : m = n
        · rw [e]; exact Or.inr z6n
        · by_cases q : m / 3 = n / 3 ∧ Gt A I n (nI N) m
          · exact Or.inl (z6 m e q)
          · rw [z6' m e q]; exact (h.2.2.1.2 m hm).2.1
      · rw [z7]
        by_cases e : m = n
        · rw [e, upd_s]; exact et2
        · rw [upd_n _ _ e]; exact (h.2.2.1.2 m hm).2.2.1
      · unfold GL
        rw [eN, eK, eV, x4 110 (by omega) (by omega) (by omega)]
        refine ⟨gl.1.elect el, fun y => (gl.2.1 y).elect el gl.1, gl.2.2.1.elect gl.1 gr el (fun m e => ?_) (fun m hS => ?_), gl.2.2.2⟩
        · show (X (A 117) m).toInt = (I (A 117) m).toInt
          rw [z7, upd_n _ _ e]
        · show (X (A 117) n).toInt ≤ (X (A 114) m).toInt
          have hm6 : m < 6 := by have := hS.1; omega
          rw [z7, upd_s, (p4 m hS).2.1]
          have := (pm_t h hm6).2
          omega
      · unfold LoA at l ⊢
        rw [eN, eV]
        exact l.elect el gl.1
    rcases pe with pe | ⟨ln, l2, pe⟩
    · refine iX.rows (fun p hp _ => ?_)
      by_cases e : (5 + 7 * n ≤ p ∧ p < 11 + 7 * n) ∨ p = 118 ∨ (120 ≤ p ∧ p < 125)
      · rw [xa p e]
        rcases e with e | e | e
        · exact pe.1 p e.1 e.2
        · rw [e]; exact pe.2.1
        · exact pe.2.2 p e.1 e.2
      · exact (xb p hp e).symm
    · have hT := h.2.1.1.2.2.1
      refine iX.pt (n := n) (ln := ln) (st := nx A I n) (kd := 0) (ow := -1) (ou := -1) ⟨hn, fun p hp hP => (xb p hp hP).symm, ?_⟩ ?_ (h.nx0 hn) ?_ ⟨by rw [tm1]; omega, ?_⟩ (fun _ => rfl) (Or.inl ⟨rfl, rfl⟩)
      · rw [(p4 n sS).1]; exact pe.base9 hn xa
      · rw [z6n]; decide
      · rw [z7, upd_s]; exact l2
      · rw [tm1, x4 110 (by omega) (by omega) (by omega)]; omega
end
