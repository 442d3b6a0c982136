section
variable {R : Nat → Nat → Nat} {A : Nat → Nat} {I J K : St} {n t g b c : Nat}
/-- a state that has I's logs of n, and else K's rows -/
theorem mid (hs : Sx R A) (I K : St) (hn : n < 6) : ∃ X : St, (∀ p, (5 + 7 * n ≤ p ∧ p < 11 + 7 * n) ∨ p = 118 ∨ (120 ≤ p ∧ p < 125) → X (A p) = I (A p)) ∧ ∀ p, p < 131 → ¬ ((5 + 7 * n ≤ p ∧ p < 11 + 7 * n) ∨ p = 118 ∨ (120 ≤ p ∧ p < 125)) → X (A p) = K (A p) := by
  refine ⟨fun a j => cif (∃ p, ((5 + 7 * n ≤ p ∧ p < 11 + 7 * n) ∨ p = 118 ∨ (120 ≤ p ∧ p < 125)) ∧ a = A p) (I a j) (K a j), fun p hp => ?_, fun p h1 hp => ?_⟩
  · funext j
    exact cif_t (P := ∃ p', ((5 + 7 * n ≤ p' ∧ p' < 11 + 7 * n) ∨ p' = 118 ∨ (120 ≤ p' ∧ p' < 125)) ∧ A p = A p') ⟨p, hp, rfl⟩
  · funext j
    refine cif_f (P := ∃ p', ((5 + 7 * n ≤ p' ∧ p' < 11 + 7 * n) ∨ p' = 118 ∨ (120 ≤ p' ∧ p' < 125)) ∧ A p = A p') (fun ⟨p', q1, q2⟩ => hp ?_)
    rw [hs.1 p p' h1 (by omega) q2]; exact q1
theorem pm_t (h : Inv A I c) {m : Nat} (hm : m < 6) : (I (A 114) m).toInt ≤ (pm A I m).toInt ∧ (I (A 110) 1).toInt + 40 ≤ (pm A I m).toInt := by
  have ns := (h.2.1.2.1 m hm).1
  have hl := Lat_t h.2.1.1 ns
  obtain ⟨b1, b2, b3, b4⟩ := h.2.1.1
  obtain ⟨b5, b6⟩ := ns
  have h40 : (Lat A I m + 40).toInt = (Lat A I m).toInt + 40 := ia (by rw [show (40 : Int32).toInt = 40 from by decide]; omega) (by rw [show (40 : Int32).toInt = 40 from by decide]; omega)
  unfold pm
  rw [imax_t, h40]
  have := mx_s (I (A 114) m).toInt ((Lat A I m).toInt + 40)
  omega
theorem ear_t (h : Inv A I c) {m : Nat} (hm : m < 6) : (Ear A I m).toInt ≤ (I (A 110) 1).toInt ∧ (Ear A I m + 40).toInt ≤ (I (A 110) 1).toInt + 40 := by
  have ns := (h.2.1.2.1 m hm).1
  have hl := Ear_t h.2.1.1 ns
  obtain ⟨b1, b2, b3, b4⟩ := h.2.1.1
  obtain ⟨b5, b6⟩ := ns
  have h40 : (Ear A I m + 40).toInt = (Ear A I m).toInt + 40 := ia (by rw [show (40 : Int32).toInt = 40 from by decide]; omega) (by rw [show (40 : Int32).toInt = 40 from by decide]; omega)
  rw [h40]
  omega
theorem nI_t6 {m : Nat} (hm : m < 6) : (nI m).toInt = m := nI_toInt (by omega)
/-- promises and leases change, and who leads with which epoch; no log does -/
theorem Inv.lease {d : Nat} (h : Inv A I c) (hcd : c ≤ d) (hd : d ≤ 600) (b : Bt A I K (fun p => (∃ m, m < 6 ∧ p = 4 + 7 * m) ∨ (113 ≤ p ∧ p < 118))) (sn : ∀ m, m < 6 → SN A K m) (ne : ∀ m, m < 6 → ∃ e, e ≤ 3 * d ∧ K (A 113) m = nI e) (bl : ∀ m, m < 6 → K (A 116) m = 0 ∨ K (A 116) m = 1) (le : ∀ m, m < 6 → (K (A 117) m).toInt ≤ (I (A 110) 1).toInt + 40) (gl2 : GL A K) (lo2 : ∀ t, t < 16 → LoA A I t → LoA A K t) : Inv A K d := by
  obtain ⟨⟨sa, sxs⟩, nu, nm, gl, tr⟩ := h
  have nP : ∀ p, ¬ (113 ≤ p ∧ p < 118) → (∀ m, m < 6 → p ≠ 4 + 7 * m) → ¬ ((∃ m, m < 6 ∧ p = 4 + 7 * m) ∨ (113 ≤ p ∧ p < 118)) := fun p q1 q2 h => by
    rcases h with ⟨m, h1, h2⟩ | h
    · exact q2 m h1 h2
    · exact q1 h
  have rm : ∀ p, 110 ≤ p → p < 131 → ¬ (113 ≤ p ∧ p < 118) → K (A p) = I (A p) := fun p q1 q2 q3 => b p q2 (nP p q3 (fun m hm => by omega))
  refine ⟨⟨⟨sa.1.cg b (nP 0 (by omega) (fun m hm => by omega)) (nP 3 (by omega) (fun m hm => by omega)) (nP 110 (by omega) (fun m hm => by omega)), fun m hm => ⟨sn m hm, ?_, ?_⟩⟩, fun t ht => (sxs t ht).cg b ht (fun d hd => nP _ (by omega) (fun m hm => by omega)) (fun p q1 q2 => nP p (by omega) (fun m hm => by omega))⟩, ⟨?_, ?_, ?_, ?_⟩, ⟨?_, fun m hm => ?_⟩, gl2, fun t ht => ?_⟩
  · exact (sa.2 m hm).2.1.cg b hm (fun d hd => nP _ (by omega) (fun m hm => by omega)) (fun p q1 q2 => nP p (by omega) (fun m hm => by omega))
  · exact (sa.2 m hm).2.2.cg b (nP 118 (by omega) (fun m hm => by omega)) (nP 119 (by omega) (fun m hm => by omega))
  · have := nu.1
    unfold NB at this ⊢
    rw [rm 110 (by omega) (by omega) (by omega)]; exact this
  · have := nu.2.1
    unfold NS EB EO at this ⊢
    rw [rm 110 (by omega) (by omega) (by omega), rm 112 (by omega) (by omega) (by omega), rm 118 (by omega) (by omega) (by omega), rm 121 (by omega) (by omega) (by omega), rm 122 (by omega) (by omega) (by omega), rm 123 (by omega) (by omega) (by omega), rm 124 (by omega) (by omega) (by omega)]; exact this
  · rw [rm 110 (by omega) (by omega) (by omega)]; exact nu.2.2.1
  · rw [rm 125 (by omega) (by omega) (by omega), rm 127 (by omega) (by omega) (by omega), rm 130 (by omega) (by omega) (by omega)]; exact nu.2.2.2
  · rw [rm 110 (by omega) (by omega) (by omega)]
    have := nm.1.1
    exact ⟨by omega, hd⟩
  · obtain ⟨w1, w2, w3, w4⟩ := nm.2 m hm
    unfold lnN at w4 ⊢
    rw [rm 110 (by omega) (by omega) (by omega), rm 118 (by omega) (by omega) (by omega), rm 120 (by omega) (by omega) (by omega), rm 121 (by omega) (by omega) (by omega), rm 124 (by omega) (by omega) (by omega)]
    exact ⟨ne m hm, bl m hm, le m hm, w4⟩
  · obtain ⟨t1, t2, t3, t4, t5, t6, t7⟩ := tr t ht
    unfold TrT lnN
    rw [rm 110 (by omega) (by omega) (by omega), rm 118 (by omega) (by omega) (by omega), rm 123 (by omega) (by omega) (by omega), rm 125 (by omega) (by omega) (by omega), rm 127 (by omega) (by omega) (by omega), rm 130 (by omega) (by omega) (by omega)]
    exact ⟨t1, t2, fun e => lo2 t ht (t3 e), t4, t5, t6, t7⟩
theorem two_of (Q : Nat → Prop) (n : Nat) (h : 2 ≤ qn Q (3 * (n / 3)) + qn Q (3 * (n / 3) + 1) + qn Q (3 * (n / 3) + 2)) : ∃ a b, a ≠ b ∧ (a / 3 = n / 3 ∧ Q a) ∧ (b / 3 = n / 3 ∧ Q b) := by
  have z : ∀ m, ¬ Q m → qn Q m = 0 := fun m hm => by unfold qn; rw [cif_f hm]
  have h1 := qn_le Q (3 * (n / 3))
  have h2 := qn_le Q (3 * (n / 3) + 1)
  have h3 := qn_le Q (3 * (n / 3) + 2)
  by_cases q1 : Q (3 * (n / 3))
  · by_cases q2 : Q (3 * (n / 3) + 1)
    · exact ⟨_, _, by omega, ⟨by omega, q1⟩, ⟨by omega, q2⟩⟩
    · by_cases q3 : Q (3 * (n / 3) + 2)
      · exact ⟨_, _, by omega, ⟨by omega, q1⟩, ⟨by omega, q3⟩⟩
      · have := z _ q2; have := z _ q3; omega
  · have := z _ q1
    by_cases q2 : Q (3 * (n / 3) + 1)
    · by_cases q3 : Q (3 * (n / 3) + 2)
      · exact ⟨3 * (n / 3) + 1, 3 * (n / 3) + 2, by omega, ⟨by omega, q2⟩, ⟨by omega, q3⟩⟩
      · have := z _ q3; omega
    · have := z _ q2; omega
theorem i_beat (hs : Sx R A) (h : Inv A I c) (hn : n < 6) (hu : I (A 111) n = 0) (hld : ¬ I (A 116) n = 0) (be : BtE A I K n) : Inv A K c := by
  obtain ⟨k1, k2, k3, k4, k5, k6, k7, k8⟩ := be
  obtain ⟨X, xa, xb⟩ := mid hs I K hn
  have x4 : ∀ p, 110 ≤ p → p < 131 → p ≠ 114 → p ≠ 115 → p ≠ 117 → X (A p) = I (A p) := fun p q1 q2 q3 q4 q5 => by
    by_cases e : p = 118 ∨ (120 ≤ p ∧ p < 125)
    · exact xa p (Or.inr e)
    · rw [xb p q2 (by omega)]; exact k4 p q1 q2 q3 q4 q5 (by omega) (by omega)
  have x1 : ∀ p, p < 110 → (∀ m, n / 3 = m / 3 → p ≠ 4 + 7 * m) → X (A p) = I (A p) := fun p q1 q2 => by
    by_cases e : 5 + 7 * n ≤ p ∧ p < 11 + 7 * n
    · exact xa p (Or.inl e)
    · rw [xb p (by omega) (by omega)]; exact k1 p q1 q2 e
  have xm : ∀ m, m < 6 → X (A (4 + 7 * m)) = K (A (4 + 7 * m)) := fun m hm => xb _ (by omega) (by omega)
  have x114 : X (A 114) = K (A 114) := xb _ (by omega) (by omega)
  have x115 : X (A 115) = K (A 115) := xb _ (by omega) (by omega)
  have x117 : X (A 117) = K (A 117) := xb _ (by omega) (by omega)
  have hin : ∀ j, (3 * (n / 3) ≤ j ∧ j < 3 * (n / 3) + 3 ∧ Rn A I n j) ↔ (j / 3 = n / 3 ∧ Rn A I n j) := fun j => ⟨fun ⟨a, b, c⟩ => ⟨by omega, c⟩, fun ⟨a, c⟩ => ⟨by omega, by omega, c⟩⟩
  have p4 : ∀ j, (j / 3 = n / 3 ∧ Rn A I n j) → X (A 114) j = pm A I j ∧ X (A 115) j = nI n := fun j hj => by
    rw [x114, x115, k5, k6, cif_t ((hin j).mpr hj), cif_t ((hin j).mpr hj)]; exact ⟨rfl, rfl⟩
  have p5 : ∀ j, ¬ (j / 3 = n / 3 ∧ Rn A I n j) → X (A 114) j = I (A 114) j ∧ X (A 115) j = I (A 115) j := fun j hj => by
    rw [x114, x115, k5, k6, cif_f (fun q => hj ((hin j).mp q)), cif_f (fun q => hj ((hin j).mp q))]; exact ⟨rfl, rfl⟩
  obtain ⟨et1, et2⟩ := ear_t h hn
  have hle : (leB A I n).toInt ≤ (I (A 110) 1).toInt + 40 := by
    have := (h.2.2.1.2 n hn).2.2.1
    unfold leB
    by_cases q : 2 ≤ rnN A I n
    · rw [if_pos q, imax_t]
      have := mx_s (I (A 117) n).toInt (Ear A I n + 40).toInt
      omega
    · rw [if_neg q]; exact this
  have gl := h.2.2.2.1
  have es := a_same (K := X) (I := I) (A := A) (fun p q1 q2 q3 q4 q5 => x4 p (by omega) (by omega) q3 q4 q5)
  have iX : Inv A X c := by
    refine h.lease (Nat.le_refl _) h.2.2.1.1.2 (fun p hp hP => ?_) (fun m hm => ?_) (fun m hm => ?_) (fun m hm => ?_) (fun m hm => ?_) ?_ (fun t ht l => ?_)
    · by_cases e : p < 110
      · exact x1 p e (fun m hm q => hP (Or.inl ⟨m, by omega, q⟩))
      · exact x4 p (by omega) hp (fun q => hP (Or.inr (by omega))) (fun q => hP (Or.inr (by omega))) (fun q => hP (Or.inr (by omega)))
    · have sn := (h.1.1.2 m hm).1
      have r5 : X (A (5 + 7 * m)) = I (A (5 + 7 * m)) := x1 _ (by omega) (fun m' _ => by omega)
      by_cases g3 : m / 3 = n / 3
      · by_cases e : m = n
        · subst e
          have hR : m / 3 = m / 3 ∧ Rn A I m m := ⟨rfl, hu, rfl⟩
          obtain ⟨s0, s3, s4, s5, s6, s7, s8, s9, l5, l6⟩ := sn
          unfold SN
          rw [xm m hm, k3, (p4 m hR).1, (p4 m hR).2, r5, x117, k7, upd_s, x4 111 (by omega) (by omega) (by omega) (by omega) (by omega), x4 112 (by omega) (by omega) (by omega) (by omega) (by omega), x4 113 (by omega) (by omega) (by omega) (by omega) (by omega), x4 116 (by omega) (by omega) (by omega) (by omega) (by omega), x4 118 (by omega) (by omega) (by omega) (by omega) (by omega), x4 119 (by omega) (by omega) (by omega) (by omega) (by omega)]
          unfold rB
          rw [upd_s, upd_n _ _ (show 0 ≠ 7 by omega), upd_n _ _ (show 3 ≠ 7 by omega), upd_n _ _ (show 4 ≠ 7 by omega), upd_n _ _ (show 5 ≠ 7 by omega), upd_n _ _ (show 6 ≠ 7 by omega), upd_n _ _ (show 8 ≠ 7 by omega), upd_n _ _ (show 9 ≠ 7 by omega), upd_s, upd_n _ _ (show 0 ≠ 9 by omega), upd_n _ _ (show 3 ≠ 9 by omega), upd_n _ _ (show 4 ≠ 9 by omega), upd_n _ _ (show 5 ≠ 9 by omega), upd_n _ _ (show 6 ≠ 9 by omega), upd_n _ _ (show 8 ≠ 9 by omega), upd_s, upd_n _ _ (show 0 ≠ 8 by omega), upd_n _ _ (show 3 ≠ 8 by omega), upd_n _ _ (show 4 ≠ 8 by omega), upd_n _ _ (show 5 ≠ 8 by omega), upd_n _ _ (show 6 ≠ 8 by omega)]
          exact ⟨s0, s3, s4, s5, s6, rfl, rfl, Or.inl rfl, l5, l6⟩
        · by_cases hR : Rn A I n m
          · obtain ⟨s0, s3, s4, s5, s6, s7, s8, s9, l5, l6⟩ := sn
            unfold SN
            rw [xm m hm, k2 m g3.symm e, cif_t hR, (p4 m ⟨g3, hR⟩).1, (p4 m ⟨g3, hR⟩).2, r5, x117, k7, upd_n _ _ e, x4 111 (by omega) (by omega) (by omega) (by omega) (by omega), x4 112 (by omega) (by omega) (by omega) (by omega) (by omega), x4 113 (by omega) (by omega) (by omega) (by omega) (by omega), x4 116 (by omega) (by omega) (by omega) (by omega) (by omega), x4 118 (by omega) (by omega) (by omega) (by omega) (by omega), x4 119 (by omega) (by omega) (by omega) (by omega) (by omega)]
            unfold rB
            rw [upd_s, upd_n _ _ (show 0 ≠ 9 by omega), upd_n _ _ (show 3 ≠ 9 by omega), upd_n _ _ (show 4 ≠ 9 by omega), upd_n _ _ (show 5 ≠ 9 by omega), upd_n _ _ (show 6 ≠ 9 by omega), upd_n _ _ (show 7 ≠ 9 by omega), upd_n _ _ (show 8 ≠ 9 by omega), upd_s, upd_n _ _ (show 0 ≠ 8 by omega), upd_n _ _ (show 3 ≠ 8 by omega), upd_n _ _ (show 4 ≠ 8 by omega), upd_n _ _ (show 5 ≠ 8 by omega), upd_n _ _ (show 6 ≠ 8 by omega), upd_n _ _ (show 7 ≠ 8 by omega)]
            exact ⟨s0, s3, s4, s5, s6, s7, rfl, Or.inl rfl, l5, l6⟩
          · refine sn.mk9 (by rw [xm m hm, k2 m g3.symm e, cif_f hR]) r5 (fun p q1 q2 => ?_)
            by_cases e4 : p = 114
            · rw [e4]; exact (p5 m (fun q => hR q.2)).1
            · by_cases e5 : p = 115
              · rw [e5]; exact (p5 m (fun q => hR q.2)).2
              · by_cases e7 : p = 117
                · rw [e7, x117, k7, upd_n _ _ e]
                · rw [x4 p (by omega) (by omega) e4 e5 e7]
      · refine sn.mk9 (x1 _ (by omega) (fun m' q => by omega)) r5 (fun p q1 q2 => ?_)
        by_cases e4 : p = 114
        · rw [e4]; exact (p5 m (fun q => g3 q.1)).1
        · by_cases e5 : p = 115
          · rw [e5]; exact (p5 m (fun q => g3 q.1)).2
          · by_cases e7 : p = 117
            · rw [e7, x117, k7, upd_n _ _ (fun e => g3 (by rw [e]))]
            · rw [x4 p (by omega) (by omega) e4 e5 e7]
    · rw [x4 113 (by omega) (by omega) (by omega) (by omega) (by omega)]; exact (h.2.2.1.2 m hm).1
    · rw [x4 116 (by omega) (by omega) (by omega) (by omega) (by omega)]; exact (h.2.2.1.2 m hm).2.1
    · rw [x117, k7]
      by_cases e : m = n
      · rw [e, upd_s]; exact hle
      · rw [upd_n _ _ e]; exact (h.2.2.1.2 m hm).2.2.1
    · unfold GL
      rw [es.1, es.2.1, es.2.2.1, es.2.2.2.1, es.2.2.2.2, x4 110 (by omega) (by omega) (by omega) (by omega) (by omega)]
      refine ⟨gl.1, gl.2.1, Ls.beat (U := fun m => m / 3 = n / 3 ∧ Rn A I n m) (n := n) gl.2.2.1 gl.1 ⟨hn, hld⟩ (fun m hU => ?_) (fun m hU => ?_) (fun m e => ?_) ?_, gl.2.2.2⟩
      · have hm : m < 6 := by omega
        refine ⟨hU.1, ?_, ?_, ?_⟩
        · unfold aE
          rw [if_pos hm, if_pos hn, hU.2.2]
        · show (X (A 115) m).toInt = n
          rw [(p4 m hU).2, nI_t6 hn]
        · show (I (A 114) m).toInt ≤ (X (A 114) m).toInt
          rw [(p4 m hU).1]; exact (pm_t h hm).1
      · exact ⟨by show (X (A 115) m).toInt = (I (A 115) m).toInt; rw [(p5 m hU).2], by show (X (A 114) m).toInt = (I (A 114) m).toInt; rw [(p5 m hU).1]⟩
      · show (X (A 117) m).toInt = (I (A 117) m).toInt
        rw [x117, k7, upd_n _ _ e]
      · show (X (A 117) n).toInt = (I (A 117) n).toInt ∨ ((I (A 117) n).toInt ≤ (X (A 117) n).toInt ∧ _)
        rw [x117, k7, upd_s]
        by_cases q : 2 ≤ rnN A I n
        · have hmx := mx_s (I (A 117) n).toInt (Ear A I n + 40).toInt
          have hlb : (leB A I n).toInt = mxI (I (A 117) n).toInt (Ear A I n + 40).toInt := by unfold leB; rw [if_pos q, imax_t]
          by_cases q2 : (leB A I n).toInt = (I (A 117) n).toInt
          · exact Or.inl q2
          · refine Or.inr ⟨by omega, two_of _ n q, fun m hU => ?_⟩
            have hm : m < 6 := by have := hU.1; omega
            have := (pm_t h hm).2
            show (leB A I n).toInt ≤ (X (A 114) m).toInt
            rw [(p4 m hU).1]
            omega
        · refine Or.inl ?_
          unfold leB
          rw [if_neg q]
    · unfold LoA
      rw [es.1, es.2.1, es.2.2.1, es.2.2.2.1]; exact l
  rcases k8 with pe | ⟨ln, l1, l2, pe⟩
  · refine iX.rows (fun p hp _ => ?_)
    by_cases e : (5 + 7 * n ≤ p ∧ p < 11 + 7 * n) ∨ p = 118 ∨ (120 ≤ p ∧ p < 125)
    · rw [xa p e]
      rcases e with e | e | e
      · exact pe.1 p e.1 e.2
      · rw [e]; exact pe.2.1
      · exact pe.2.2 p e.1 e.2
    · exact (xb p hp e).symm
  · have x113 := x4 113 (by omega) (by omega) (by omega) (by omega) (by omega)
    have hT := h.2.1.1.2.2.1
    refine iX.pt (n := n) (ln := ln) (st := nx A I n) (kd := 0) (ow := -1) (ou := -1) ⟨hn, fun p hp hP => (xb p hp hP).symm, ?_⟩ ?_ (h.nx0 hn) ?_ ⟨by rw [tm1]; omega, ?_⟩ (fun _ => rfl) (Or.inl ⟨rfl, rfl⟩)
    · rw [x113]; exact pe.base9 hn xa
    · rw [x4 116 (by omega) (by omega) (by omega) (by omega) (by omega)]; exact hld
    · rw [x117, k7, upd_s]; exact l2
    · rw [tm1, x4 110 (by omega) (by omega) (by omega) (by omega) (by omega)]; omega
end
