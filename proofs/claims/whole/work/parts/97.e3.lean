section
variable {R : Nat → Nat → Nat} {A : Nat → Nat} {I J K : St} {n t g b c : Nat}
/-- the clock, or how many are begun -/
theorem Inv.clock {d : Nat} (h : Inv A I c) (hcd : c ≤ d) (hd : d ≤ 600) (b : Bt A I K (fun p => p = 0 ∨ p = 3 ∨ p = 110)) (sc : SC A K) (h0 : K (A 110) 0 = I (A 110) 0) (h1 : (I (A 110) 1).toInt ≤ (K (A 110) 1).toInt) (h2 : (K (A 110) 1).toInt ≤ 50 * d) (h3 : I (A 110) 16 ≤ K (A 110) 16) (h4 : ∃ b, b ≤ 16 ∧ K (A 110) 16 = nI b) : Inv A K d := by
  obtain ⟨⟨sa, sxs⟩, nu, nm, gl, tr⟩ := h
  have rm : ∀ p, 111 ≤ p → p < 131 → K (A p) = I (A p) := fun p q1 q2 => b p q2 (by omega)
  refine ⟨⟨⟨sc, fun m hm => ?_⟩, fun t ht => (sxs t ht).cg b ht (fun d hd => by omega) (fun p q1 q2 => by omega)⟩, ⟨?_, fun m hm => ⟨?_, (nu.2.1 m hm).2.1.cg b (by omega) (fun p q1 q2 => by omega), fun j hj hk => ?_⟩, h4, ?_⟩, ⟨⟨h2, hd⟩, fun m hm => ?_⟩, ?_, fun t ht => ?_⟩
  · obtain ⟨s1, s2, s3⟩ := sa.2 m hm
    exact ⟨s1.cg b hm (by omega) (by omega) (fun p q1 q2 => by omega), s2.cg b hm (fun d hd => by omega) (fun p q1 q2 => by omega), s3.cg b (by omega) (by omega)⟩
  · obtain ⟨n1, n2, n3, n4⟩ := nu.1
    unfold NB
    rw [h0]
    exact ⟨n1, n2, by omega, by omega⟩
  · have := (nu.2.1 m hm).1
    unfold NS at this ⊢
    rw [h0, rm 112 (by omega) (by omega)]; exact this
  · rw [rm 118 (by omega) (by omega)] at hj
    rw [rm 122 (by omega) (by omega)] at hk
    rw [rm 123 (by omega) (by omega)]
    obtain ⟨t, q1, q2, q3⟩ := (nu.2.1 m hm).2.2 j hj hk
    refine ⟨t, q1, q2, ?_⟩
    rw [ilt] at q3 ⊢
    rw [ile] at h3
    omega
  · rw [rm 125 (by omega) (by omega), rm 127 (by omega) (by omega), rm 130 (by omega) (by omega)]; exact nu.2.2.2
  · obtain ⟨⟨e, w0, w1⟩, w2, w3, w4⟩ := nm.2 m hm
    unfold lnN at w4 ⊢
    rw [rm 113 (by omega) (by omega), rm 116 (by omega) (by omega), rm 117 (by omega) (by omega), rm 118 (by omega) (by omega), rm 120 (by omega) (by omega), rm 121 (by omega) (by omega), rm 124 (by omega) (by omega)]
    refine ⟨⟨e, by omega, w1⟩, w2, by omega, fun j hj => ?_⟩
    obtain ⟨y1, y2, y3⟩ := w4 j hj
    exact ⟨y1, by omega, by omega⟩
  · exact gl.same (fun p q1 q2 _ _ q5 => rm p (by omega) (by omega)) h1
  · obtain ⟨t1, t2, t3, t4, t5, t6, t7⟩ := tr t ht
    have lo : LoA A K t = LoA A I t := LoA.same (fun p q1 q2 _ _ _ => rm p (by omega) (by omega)) t
    unfold TrT lnN
    rw [lo, rm 118 (by omega) (by omega), rm 123 (by omega) (by omega), rm 125 (by omega) (by omega), rm 127 (by omega) (by omega), rm 130 (by omega) (by omega)]
    exact ⟨t1, t2, t3, t4, t5, t6, by omega⟩
/-- a node is up or down, has another skew, or leads no more -/
theorem Inv.node (h : Inv A I c) (b : Bt A I K (fun p => (∃ m, m < 6 ∧ p = 4 + 7 * m) ∨ p = 111 ∨ p = 112 ∨ p = 116)) (sn : ∀ m, m < 6 → SN A K m) (ns : ∀ m, m < 6 → NS A K m) (hl : ∀ m, m < 6 → K (A 116) m = I (A 116) m ∨ K (A 116) m = 0) : Inv A K c := by
  obtain ⟨⟨sa, sxs⟩, nu, nm, gl, tr⟩ := h
  have rr : ∀ p, p < 131 → p ≠ 111 → p ≠ 112 → p ≠ 116 → (∀ m, m < 6 → p ≠ 4 + 7 * m) → K (A p) = I (A p) := fun p q1 q2 q3 q4 q5 => b p q1 (fun h => by
    rcases h with ⟨m, h1, h2⟩ | h | h | h
    · exact q5 m h1 h2
    · exact q2 h
    · exact q3 h
    · exact q4 h)
  have rm : ∀ p, 110 ≤ p → p < 131 → p ≠ 111 → p ≠ 112 → p ≠ 116 → K (A p) = I (A p) := fun p q1 q2 q3 q4 q5 => rr p q2 q3 q4 q5 (fun m hm => by omega)
  have nP : ∀ p, p < 131 → p ≠ 111 → p ≠ 112 → p ≠ 116 → (∀ m, m < 6 → p ≠ 4 + 7 * m) → ¬ ((∃ m, m < 6 ∧ p = 4 + 7 * m) ∨ p = 111 ∨ p = 112 ∨ p = 116) := fun p q1 q2 q3 q4 q5 h => by
    rcases h with ⟨m, h1, h2⟩ | h | h | h
    · exact q5 m h1 h2
    · exact q2 h
    · exact q3 h
    · exact q4 h
  have eE : aE A K = aE A I := by funext m; unfold aE; rw [rm 113 (by omega) (by omega) (by omega) (by omega) (by omega)]
  have eN : aN A K = aN A I := by funext m; unfold aN lnN; rw [rm 118 (by omega) (by omega) (by omega) (by omega) (by omega)]
  have eK : aK A K = aK A I := by funext m; unfold aK knN; rw [rm 119 (by omega) (by omega) (by omega) (by omega) (by omega)]
  have eV : aV A K = aV A I := by funext m j; unfold aV; rw [rm 120 (by omega) (by omega) (by omega) (by omega) (by omega), rm 121 (by omega) (by omega) (by omega) (by omega) (by omega), rm 122 (by omega) (by omega) (by omega) (by omega) (by omega), rm 123 (by omega) (by omega) (by omega) (by omega) (by omega), rm 124 (by omega) (by omega) (by omega) (by omega) (by omega)]
  have eL : ∀ m, aL A K m → aL A I m ∧ aE A I m = aE A I m := fun m hm => ⟨⟨hm.1, fun e => by
    rcases hl m hm.1 with w | w
    · exact hm.2 (w.trans e)
    · exact hm.2 w⟩, rfl⟩
  refine ⟨⟨⟨sa.1.cg b (nP 0 (by omega) (by omega) (by omega) (by omega) (fun m hm => by omega)) (nP 3 (by omega) (by omega) (by omega) (by omega) (fun m hm => by omega)) (nP 110 (by omega) (by omega) (by omega) (by omega) (fun m hm => by omega)), fun m hm => ⟨sn m hm, ?_, ?_⟩⟩, fun t ht => (sxs t ht).cg b ht (fun d hd => nP _ (by omega) (by omega) (by omega) (by omega) (fun m hm => by omega)) (fun p q1 q2 => nP p (by omega) (by omega) (by omega) (by omega) (fun m hm => by omega))⟩, ⟨?_, fun m hm => ⟨ns m hm, ?_, ?_⟩, ?_, ?_⟩, ?_, ?_, fun t ht => ?_⟩
  · exact (sa.2 m hm).2.1.cg b hm (fun d hd => nP _ (by omega) (by omega) (by omega) (by omega) (fun m hm => by omega)) (fun p q1 q2 => nP p (by omega) (by omega) (by omega) (by omega) (fun m hm => by omega))
  · exact (sa.2 m hm).2.2.cg b (nP 118 (by omega) (by omega) (by omega) (by omega) (fun m hm => by omega)) (nP 119 (by omega) (by omega) (by omega) (by omega) (fun m hm => by omega))
  · exact nu.1.cg b (nP 110 (by omega) (by omega) (by omega) (by omega) (fun m hm => by omega))
  · exact (nu.2.1 m hm).2.1.cg b (nP 118 (by omega) (by omega) (by omega) (by omega) (fun m hm => by omega)) (fun p q1 q2 => nP p (by omega) (by omega) (by omega) (by omega) (fun m hm => by omega))
  · exact (nu.2.1 m hm).2.2.cg b (nP 110 (by omega) (by omega) (by omega) (by omega) (fun m hm => by omega)) (nP 118 (by omega) (by omega) (by omega) (by omega) (fun m hm => by omega)) (nP 122 (by omega) (by omega) (by omega) (by omega) (fun m hm => by omega)) (nP 123 (by omega) (by omega) (by omega) (by omega) (fun m hm => by omega))
  · rw [rm 110 (by omega) (by omega) (by omega) (by omega) (by omega)]; exact nu.2.2.1
  · rw [rm 125 (by omega) (by omega) (by omega) (by omega) (by omega), rm 127 (by omega) (by omega) (by omega) (by omega) (by omega), rm 130 (by omega) (by omega) (by omega) (by omega) (by omega)]; exact nu.2.2.2
  · unfold Nm lnN at nm ⊢
    rw [rm 110 (by omega) (by omega) (by omega) (by omega) (by omega), rm 113 (by omega) (by omega) (by omega) (by omega) (by omega), rm 117 (by omega) (by omega) (by omega) (by omega) (by omega), rm 118 (by omega) (by omega) (by omega) (by omega) (by omega), rm 120 (by omega) (by omega) (by omega) (by omega) (by omega), rm 121 (by omega) (by omega) (by omega) (by omega) (by omega), rm 124 (by omega) (by omega) (by omega) (by omega) (by omega)]
    refine ⟨nm.1, fun m hm => ?_⟩
    obtain ⟨w1, w2, w3⟩ := nm.2 m hm
    refine ⟨w1, ?_, w3⟩
    rcases hl m hm with w | w
    · rw [w]; exact w2
    · exact Or.inl w
  · obtain ⟨g1, g2, g3, g4⟩ := gl
    unfold GL
    rw [eE, eN, eK, eV, rm 110 (by omega) (by omega) (by omega) (by omega) (by omega), rm 114 (by omega) (by omega) (by omega) (by omega) (by omega), rm 115 (by omega) (by omega) (by omega) (by omega) (by omega), rm 117 (by omega) (by omega) (by omega) (by omega) (by omega)]
    exact ⟨g1.raise (fun m => Int.le_refl _) eL, fun y => (g2 y).raise (fun m => Int.le_refl _) eL, g3.mono (Int.le_refl _) (fun m h => (eL m h).1), g4⟩
  · obtain ⟨t1, t2, t3, t4, t5, t6, t7⟩ := tr t ht
    unfold TrT lnN
    rw [rm 110 (by omega) (by omega) (by omega) (by omega) (by omega), rm 118 (by omega) (by omega) (by omega) (by omega) (by omega), rm 123 (by omega) (by omega) (by omega) (by omega) (by omega), rm 125 (by omega) (by omega) (by omega) (by omega) (by omega), rm 127 (by omega) (by omega) (by omega) (by omega) (by omega), rm 130 (by omega) (by omega) (by omega) (by omega) (by omega)]
    refine ⟨t1, t2, fun e => ?_, t4, t5, t6, t7⟩
    unfold LoA
    rw [eE, eN, eV]
    exact (t3 e).raise eL
/-- what an ACTIVE transaction has read or will write -/
theorem Inv.data (h : Inv A I c) (b : Bt A I K (fun p => (∃ u, u < 16 ∧ 47 + 4 * u ≤ p ∧ p ≤ 49 + 4 * u) ∨ (126 ≤ p ∧ p < 130))) (sx : ∀ u, u < 16 → SX A K u) (hw : ∀ u, u < 16 → K (A 127) u = I (A 127) u ∨ (I (A 125) u = 0 ∧ ∀ i, 8 ≤ i → bt (K (A 127) u) i = false)) : Inv A K c := by
  obtain ⟨⟨sa, sxs⟩, nu, nm, gl, tr⟩ := h
  have rm : ∀ p, 110 ≤ p → p < 131 → ¬ (126 ≤ p ∧ p < 130) → K (A p) = I (A p) := fun p q1 q2 q3 => b p q2 (fun h => by
    rcases h with ⟨u, h1, h2, h3⟩ | h
    · omega
    · exact q3 h)
  refine ⟨⟨sa.cg b ⟨fun h => by rcases h with ⟨u, h1, h2, h3⟩ | h <;> omega, fun p q1 q2 h => by rcases h with ⟨u, h1, h2, h3⟩ | h <;> omega⟩ (fun p h => by rcases h with ⟨u, h1, h2, h3⟩ | h <;> omega), sx⟩, ⟨?_, ?_, ?_, fun t ht hno => ?_⟩, ?_, ?_, fun t ht => ?_⟩
  · have := nu.1
    unfold NB at this ⊢
    rw [rm 110 (by omega) (by omega) (by omega)]; exact this
  · have := nu.2.1
    unfold NS EB EO at this ⊢
    rw [rm 110 (by omega) (by omega) (by omega), rm 112 (by omega) (by omega) (by omega), rm 118 (by omega) (by omega) (by omega), rm 121 (by omega) (by omega) (by omega), rm 122 (by omega) (by omega) (by omega), rm 123 (by omega) (by omega) (by omega), rm 124 (by omega) (by omega) (by omega)]; exact this
  · rw [rm 110 (by omega) (by omega) (by omega)]; exact nu.2.2.1
  · rw [rm 130 (by omega) (by omega) (by omega)]
    rw [rm 125 (by omega) (by omega) (by omega)] at hno
    rcases hw t ht with e | ⟨e, -⟩
    · rw [e] at hno; exact nu.2.2.2 t ht hno
    · exact nu.2.2.2 t ht (fun q => by rw [e] at q; exact absurd q.1 (by decide))
  · unfold Nm lnN at nm ⊢
    rw [rm 110 (by omega) (by omega) (by omega), rm 113 (by omega) (by omega) (by omega), rm 116 (by omega) (by omega) (by omega), rm 117 (by omega) (by omega) (by omega), rm 118 (by omega) (by omega) (by omega), rm 120 (by omega) (by omega) (by omega), rm 121 (by omega) (by omega) (by omega), rm 124 (by omega) (by omega) (by omega)]
    exact nm
  · exact gl.same (fun p q1 q2 _ _ _ => rm p q1 (by omega) (by omega)) (by rw [rm 110 (by omega) (by omega) (by omega)]; exact Int.le_refl _)
  · obtain ⟨t1, t2, t3, t4, t5, t6, t7⟩ := tr t ht
    have lo : LoA A K t = LoA A I t := LoA.same (fun p q1 q2 _ _ _ => rm p (by omega) (by omega) (by omega)) t
    unfold TrT lnN
    rw [lo, rm 110 (by omega) (by omega) (by omega), rm 118 (by omega) (by omega) (by omega), rm 123 (by omega) (by omega) (by omega), rm 125 (by omega) (by omega) (by omega), rm 130 (by omega) (by omega) (by omega)]
    rcases hw t ht with e | ⟨e, e2⟩
    · rw [e]; exact ⟨t1, t2, t3, t4, t5, t6, t7⟩
    · refine ⟨t1, t2, t3, fun q => ?_, e2, t6, t7⟩
      rw [e] at q
      rcases q with q | q
      · exact absurd q (by decide)
      · exact absurd q (by decide)
end
