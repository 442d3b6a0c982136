section
/-- what the logs' theory speaks of, read from the rows of the reference -/
def aE (A : Nat → Nat) (I : St) (n : Nat) : Int := if n < 6 then (I (A 113) n).toInt else 0
def aL (A : Nat → Nat) (I : St) (n : Nat) : Prop := n < 6 ∧ ¬ I (A 116) n = 0
def aN (A : Nat → Nat) (I : St) (n : Nat) : Nat := if n < 6 then lnN A I n else 0
def aK (A : Nat → Nat) (I : St) (n : Nat) : Nat := if n < 6 then knN A I n else 0
def aV (A : Nat → Nat) (I : St) (n j : Nat) : En := if j < 60 then ((I (A 120) (60 * n + j)).toInt, (I (A 121) (60 * n + j)).toInt, (I (A 122) (60 * n + j)).toInt, (I (A 123) (60 * n + j)).toInt, (I (A 124) (60 * n + j)).toInt) else (0, 0, 0, 0, 0)
def Ck (w o : Int32) : En → Prop := fun e => e.2.2.1 = w.toInt ∧ e.2.2.2.1 = o.toInt
/-- the logs, what is known, the leases -/
def GL (A : Nat → Nat) (I : St) : Prop := Rf (aE A I) (aL A I) (aN A I) (aV A I) ∧ (∀ x, Kw (aE A I) (aL A I) (aN A I) (aV A I) (aK A I) x) ∧ Ls (I (A 110) 1).toInt (aE A I) (aL A I) (aN A I) (aV A I) (fun n => (I (A 117) n).toInt) (fun n => (I (A 114) n).toInt) (fun n => (I (A 115) n).toInt) ∧ ∀ t, t < 16 → Un (aN A I) (aV A I) (Ck 1 (nI t)) ∧ Un (aN A I) (aV A I) (Ck 2 (nI t))
def LoA (A : Nat → Nat) (I : St) (t : Nat) : Prop := Lo (aE A I) (aL A I) (aN A I) (aV A I) (Ck 2 (nI t)) 0
/-- one transaction -/
def TrT (A : Nat → Nat) (I : St) (t : Nat) : Prop := (∃ s, s < 5 ∧ I (A 125) t = nI s) ∧ (I (A 125) t = 0 → ∀ n j, n < 6 → j < lnN A I n → ¬ I (A 123) (60 * n + j) = nI t) ∧ (I (A 125) t = 1 → LoA A I t) ∧ (I (A 125) t = 1 ∨ I (A 125) t = 2 → ¬ I (A 127) t = 0) ∧ (∀ i, 8 ≤ i → bt (I (A 127) t) i = false) ∧ 0 ≤ (I (A 130) t).toInt ∧ (I (A 130) t).toInt ≤ (I (A 110) 1).toInt + 40
/-- numbers after c calls -/
def Nm (A : Nat → Nat) (I : St) (c : Nat) : Prop := ((I (A 110) 1).toInt ≤ 50 * c ∧ c ≤ 600) ∧ ∀ n, n < 6 → (∃ e, e ≤ 3 * c ∧ I (A 113) n = nI e) ∧ (I (A 116) n = 0 ∨ I (A 116) n = 1) ∧ (I (A 117) n).toInt ≤ (I (A 110) 1).toInt + 40 ∧ ∀ j, j < lnN A I n → 0 ≤ (I (A 120) (60 * n + j)).toInt ∧ (I (A 121) (60 * n + j)).toInt ≤ (I (A 110) 1).toInt + 40 ∧ (I (A 124) (60 * n + j)).toInt ≤ (I (A 110) 1).toInt + 40
def Inv (A : Nat → Nat) (I : St) (c : Nat) : Prop := Sim A I ∧ Num A I ∧ Nm A I c ∧ GL A I ∧ ∀ t, t < 16 → TrT A I t
variable {R : Nat → Nat → Nat} {A : Nat → Nat} {I J K : St} {n t g b c : Nat}
theorem a_same (h : ∀ p, 113 ≤ p → p < 125 → p ≠ 114 → p ≠ 115 → p ≠ 117 → K (A p) = I (A p)) : aE A K = aE A I ∧ aL A K = aL A I ∧ aN A K = aN A I ∧ aV A K = aV A I ∧ aK A K = aK A I := by
  refine ⟨?_, ?_, ?_, ?_, ?_⟩
  · funext n; unfold aE; rw [h 113 (by omega) (by omega) (by omega) (by omega) (by omega)]
  · funext n; unfold aL; rw [h 116 (by omega) (by omega) (by omega) (by omega) (by omega)]
  · funext n; unfold aN lnN; rw [h 118 (by omega) (by omega) (by omega) (by omega) (by omega)]
  · funext n j; unfold aV; rw [h 120 (by omega) (by omega) (by omega) (by omega) (by omega), h 121 (by omega) (by omega) (by omega) (by omega) (by omega), h 122 (by omega) (by omega) (by omega) (by omega) (by omega), h 123 (by omega) (by omega) (by omega) (by omega) (by omega), h 124 (by omega) (by omega) (by omega) (by omega) (by omega)]
  · funext n; unfold aK knN; rw [h 119 (by omega) (by omega) (by omega) (by omega) (by omega)]
theorem GL.same (h : ∀ p, 110 ≤ p → p < 125 → p ≠ 111 → p ≠ 112 → p ≠ 110 → K (A p) = I (A p)) (hT : (I (A 110) 1).toInt ≤ (K (A 110) 1).toInt) (g : GL A I) : GL A K := by
  obtain ⟨e1, e2, e3, e4, e5⟩ := a_same (fun p q1 q2 q3 q4 q5 => h p (by omega) q2 (by omega) (by omega) (by omega))
  unfold GL at g ⊢
  rw [e1, e2, e3, e4, e5, h 114 (by omega) (by omega) (by omega) (by omega) (by omega), h 115 (by omega) (by omega) (by omega) (by omega) (by omega), h 117 (by omega) (by omega) (by omega) (by omega) (by omega)]
  exact ⟨g.1, g.2.1, g.2.2.1.mono hT (fun n h => h), g.2.2.2⟩
theorem LoA.same (h : ∀ p, 113 ≤ p → p < 125 → p ≠ 114 → p ≠ 115 → p ≠ 117 → K (A p) = I (A p)) (t : Nat) : LoA A K t = LoA A I t := by
  obtain ⟨e1, e2, e3, e4, e5⟩ := a_same h
  unfold LoA
  rw [e1, e2, e3, e4]
theorem Inv.mono {d : Nat} (h : Inv A I c) (hcd : c ≤ d) (hd : d ≤ 600) : Inv A I d := by
  obtain ⟨h1, h2, ⟨h3, h4⟩, h5⟩ := h
  refine ⟨h1, h2, ⟨⟨by omega, hd⟩, fun n hn => ?_⟩, h5⟩
  obtain ⟨⟨e, q1, q2⟩, q3⟩ := h4 n hn
  exact ⟨⟨e, by omega, q2⟩, q3⟩
/-- states of transactions change, and the stamp of one that is COMMITTED -/
theorem Inv.tx (h : Inv A I c) (b : Bt A I K (fun p => p = 125 ∨ p = 130 ∨ ∃ u, u < 16 ∧ p = 46 + 4 * u)) (sx : ∀ u, u < 16 → K (A (46 + 4 * u)) 3 = K (A 125) u ∧ K (A (46 + 4 * u)) 4 = K (A 130) u) (ok : ∀ u, u < 16 → (K (A 125) u = I (A 125) u ∧ K (A 130) u = I (A 130) u) ∨ (¬ I (A 125) u = 3 ∧ ∃ s, 0 < s ∧ s < 5 ∧ K (A 125) u = nI s ∧ (s = 1 → LoA A I u) ∧ (s = 1 ∨ s = 2 → ¬ I (A 127) u = 0) ∧ (K (A 130) u = I (A 130) u ∨ (s = 3 ∧ ¬ I (A 127) u = 0 ∧ 0 ≤ (K (A 130) u).toInt ∧ (K (A 130) u).toInt ≤ (I (A 110) 1).toInt + 40)))) : Inv A K c := by
  obtain ⟨⟨sa, sxs⟩, nu, nm, gl, tr⟩ := h
  have r : ∀ p, p < 131 → p ≠ 125 → p ≠ 130 → (∀ u, u < 16 → p ≠ 46 + 4 * u) → K (A p) = I (A p) := fun p q1 q2 q3 q4 => b p q1 (fun h => by
    rcases h with h | h | ⟨u, h1, h2⟩
    · exact q2 h
    · exact q3 h
    · exact q4 u h1 h2)
  have rm : ∀ p, 110 ≤ p → p < 131 → p ≠ 125 → p ≠ 130 → K (A p) = I (A p) := fun p q1 q2 q3 q4 => r p q2 q3 q4 (fun u hu => by omega)
  have s3 : ∀ s, s < 5 → nI s = (3 : Int32) → s = 3 := fun s q1 q2 => nI_inj (b := 3) (by omega) (by omega) q2
  refine ⟨⟨sa.cg b ⟨fun h => by rcases h with h | h | ⟨u, h1, h2⟩ <;> omega, fun p q1 q2 h => by rcases h with h | h | ⟨u, h1, h2⟩ <;> omega⟩ (fun p h => by rcases h with h | h | ⟨u, h1, h2⟩ <;> omega), fun t ht => ?_⟩, ⟨?_, ?_, ?_, ?_⟩, ?_, ?_, ?_⟩
  · obtain ⟨q1, q2, q3, q4⟩ := sxs t ht
    refine ⟨(sx t ht).1, (sx t ht).2, ?_, ?_⟩
    · rw [r (47 + 4 * t) (by omega) (by omega) (by omega) (fun u hu => by omega), r (48 + 4 * t) (by omega) (by omega) (by omega) (fun u hu => by omega), rm 126 (by omega) (by omega) (by omega) (by omega), rm 127 (by omega) (by omega) (by omega) (by omega), rm 128 (by omega) (by omega) (by omega) (by omega)]
      exact q3
    · unfold RdG at q4 ⊢
      rw [r (49 + 4 * t) (by omega) (by omega) (by omega) (fun u hu => by omega), rm 126 (by omega) (by omega) (by omega) (by omega), rm 129 (by omega) (by omega) (by omega) (by omega)]
      exact q4
  · have := nu.1
    unfold NB at this ⊢
    rw [rm 110 (by omega) (by omega) (by omega) (by omega)]; exact this
  · have := nu.2.1
    unfold NS EB EO at this ⊢
    rw [rm 110 (by omega) (by omega) (by omega) (by omega), rm 112 (by omega) (by omega) (by omega) (by omega), rm 118 (by omega) (by omega) (by omega) (by omega), rm 121 (by omega) (by omega) (by omega) (by omega), rm 122 (by omega) (by omega) (by omega) (by omega), rm 123 (by omega) (by omega) (by omega) (by omega), rm 124 (by omega) (by omega) (by omega) (by omega)]; exact this
  · rw [rm 110 (by omega) (by omega) (by omega) (by omega)]; exact nu.2.2.1
  · intro t ht hno
    rw [rm 127 (by omega) (by omega) (by omega) (by omega)] at hno
    rcases ok t ht with ⟨e1, e2⟩ | ⟨n3, s, q1, q2, q3, q4, q5, q6⟩
    · rw [e2]; rw [e1] at hno; exact nu.2.2.2 t ht hno
    · rcases q6 with e | ⟨e1, e2, e3, e4⟩
      · rw [e]; exact nu.2.2.2 t ht (fun q => n3 q.1)
      · exact absurd ⟨by rw [q3, e1]; rfl, e2⟩ hno
  · unfold Nm lnN at nm ⊢
    rw [rm 110 (by omega) (by omega) (by omega) (by omega), rm 113 (by omega) (by omega) (by omega) (by omega), rm 116 (by omega) (by omega) (by omega) (by omega), rm 117 (by omega) (by omega) (by omega) (by omega), rm 118 (by omega) (by omega) (by omega) (by omega), rm 120 (by omega) (by omega) (by omega) (by omega), rm 121 (by omega) (by omega) (by omega) (by omega), rm 124 (by omega) (by omega) (by omega) (by omega)]
    exact nm
  · exact gl.same (fun p q1 q2 _ _ _ => rm p q1 (by omega) (by omega) (by omega)) (by rw [rm 110 (by omega) (by omega) (by omega) (by omega)]; exact Int.le_refl _)
  · intro t ht
    obtain ⟨t1, t2, t3, t4, t5, t6, t7⟩ := tr t ht
    have lo : LoA A K t = LoA A I t := LoA.same (fun p q1 q2 _ _ _ => rm p (by omega) (by omega) (by omega) (by omega)) t
    unfold TrT lnN
    rw [lo, rm 110 (by omega) (by omega) (by omega) (by omega), rm 118 (by omega) (by omega) (by omega) (by omega), rm 123 (by omega) (by omega) (by omega) (by omega), rm 127 (by omega) (by omega) (by omega) (by omega)]
    rcases ok t ht with ⟨e1, e2⟩ | ⟨n3, s, q1, q2, q3, q4, q5, q6⟩
    · rw [e1, e2]; exact ⟨t1, t2, t3, t4, t5, t6, t7⟩
    · have k0 : ∀ m, m < 5 → nI s = nI m → s = m := fun m hm e => nI_inj (by omega) (by omega) e
      refine ⟨⟨s, q2, q3⟩, fun e => ?_, fun e => q4 (k0 1 (by omega) (q3.symm.trans e)), fun e => q5 ?_, t5, ?_⟩
      · have := k0 0 (by omega) (q3.symm.trans e)
        omega
      · rcases e with e | e
        · exact Or.inl (k0 1 (by omega) (q3.symm.trans e))
        · exact Or.inr (k0 2 (by omega) (q3.symm.trans e))
      · rcases q6 with e | ⟨e1, e2, e3, e4⟩
        · rw [e]; exact ⟨t6, t7⟩
        · exact ⟨e3, e4⟩
theorem Inv.rows (h : Inv A I c) (b : Bt A I K (fun _ => False)) : Inv A K c := h.tx (fun p hp _ => b p hp (fun q => q)) (fun u hu => by
  rw [b _ (by omega) (fun q => q), b 125 (by omega) (fun q => q), b 130 (by omega) (fun q => q)]
  exact ⟨(h.1.2 u hu).1, (h.1.2 u hu).2.1⟩) (fun u hu => Or.inl ⟨by rw [b 125 (by omega) (fun q => q)], by rw [b 130 (by omega) (fun q => q)]⟩)
end
