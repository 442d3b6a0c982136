section
variable {R : Nat → Nat → Nat} {A : Nat → Nat} {I J : St} {n m : Nat} {x : Int32}
theorem MR.ele (h : MR A I J) : Ele A J n x = Ele A I n x := by
  unfold Ele
  rw [h.gt]
def EK (A : Nat → Nat) (I J K1 : St) (n : Nat) (x : Int32) : Prop := (∀ p, p < 110 → K1 (A p) = J (A p)) ∧ (∀ p, 110 ≤ p → p < 131 → ¬ (113 ≤ p ∧ p ≤ 117) → K1 (A p) = I (A p)) ∧
  (∀ j, K1 (A 113) j = cif (3 * (n / 3) ≤ j ∧ j < 3 * (n / 3) + 3 ∧ Gt A I n x j) x (I (A 113) j)) ∧ (∀ j, K1 (A 114) j = cif (3 * (n / 3) ≤ j ∧ j < 3 * (n / 3) + 3 ∧ Gt A I n x j) (pm A I j) (I (A 114) j)) ∧ (∀ j, K1 (A 115) j = cif (3 * (n / 3) ≤ j ∧ j < 3 * (n / 3) + 3 ∧ Gt A I n x j) (nI n) (I (A 115) j)) ∧
  ((¬ Ele A I n x ∧ (∀ j, K1 (A 116) j = cif (3 * (n / 3) ≤ j ∧ j < 3 * (n / 3) + 3 ∧ Gt A I n x j) 0 (I (A 116) j)) ∧ K1 (A 117) = I (A 117)) ∨
   (Ele A I n x ∧ (∀ j, K1 (A 116) j = if j = n then 1 else cif (3 * (n / 3) ≤ j ∧ j < 3 * (n / 3) + 3 ∧ Gt A I n x j) 0 (I (A 116) j)) ∧ K1 (A 117) = upd (I (A 117)) n (Ear A I n + 40)))
theorem M_elect2 (hs : Sx R A) (sa : SA A I) (nu : Num A I) (hn : n < 6) (hu : I (A 111) n = 0) {e : Nat} (he : e ≤ 100000) (hep : I (A 113) n = nI e) (hx : x = nI (nE e n)) (mr : MR A I J) : ∃ K1, EK A I J K1 n x ∧ F_Model_elect R (A 110) (nI n) J = cif (Ele A I n x) (cif (bar2 A I n (Ear A I n + 40) (nx A I n) < 0) (some (x, K1)) (ob (F_Model_put R (A 110) (nI n) 0 (-1) (-1) (nx A I n) K1) (fun K => some (x, K)))) (some (0, K1)) := by
  have RS := hs.all
  have bm : Bt A I J (fun p => p < 110) := fun p q1 q2 => mr p (by omega) q1
  obtain ⟨K0, ⟨l0, l3, l4, l5, l6⟩, e0⟩ := M_elect1 (I := J) (x := x) hs (fun n hn => (sa.2 n hn).2.2.cg bm (by omega) (by omega)) hn (by rw [mr 111 (by omega) (by omega)]; exact hu) he (by rw [mr 113 (by omega) (by omega)]; exact hep) hx
  have hE : Ear A J n = Ear A I n := Ear.cg bm (by omega) (by omega)
  rw [mr.ele, hE] at e0
  simp only [mr.gt, mr.p9, mr 113 (by omega) (by omega), mr 114 (by omega) (by omega), mr 115 (by omega) (by omega), mr 116 (by omega) (by omega)] at l3 l4 l5 l6
  have k0 : ∀ p, p < 131 → ¬ (113 ≤ p ∧ p ≤ 116) → K0 (A p) = J (A p) := fun p w1 w2 => l0 p w1 w2
  by_cases hel : Ele A I n x
  · have ek : EK A I J (up2 (up2 K0 (A 116) n 1) (A 117) n (Ear A I n + 40)) n x := by
      refine ⟨fun p hp => ?_, fun p h1 h2 h3 => ?_, fun j => ?_, fun j => ?_, fun j => ?_, Or.inr ⟨hel, fun j => ?_, ?_⟩⟩
      · rw [V_row hs _ _ _ (p := 117) (by omega) (by omega) (by omega), V_row hs _ _ _ (p := 116) (by omega) (by omega) (by omega), k0 p (by omega) (by omega)]
      · rw [V_row hs _ _ _ (p := 117) (by omega) (by omega) (by omega), V_row hs _ _ _ (p := 116) (by omega) (by omega) (by omega), k0 p (by omega) (by omega), mr p h1 h2]
      · rw [V_row hs _ _ _ (p := 117) (by omega) (by omega) (by omega), V_row hs _ _ _ (p := 116) (by omega) (by omega) (by omega), l3]
      · rw [V_row hs _ _ _ (p := 117) (by omega) (by omega) (by omega), V_row hs _ _ _ (p := 116) (by omega) (by omega) (by omega), l4]
      · rw [V_row hs _ _ _ (p := 117) (by omega) (by omega) (by omega), V_row hs _ _ _ (p := 116) (by omega) (by omega) (by omega), l5]
      · rw [V_row hs _ _ _ (p := 117) (by omega) (by omega) (by omega), V_same]
        by_cases q : j = n
        · subst q; rw [upd_s, if_pos rfl]
        · rw [upd_n _ _ q, if_neg q, l6]
      · rw [V_same, V_row hs _ _ _ (p := 116) (by omega) (by omega) (by omega), k0 117 (by omega) (by omega), mr 117 (by omega) (by omega)]
    refine ⟨_, ek, ?_⟩
    rw [cif_t hel] at e0
    rw [cif_t hel, e0]
    generalize up2 (up2 K0 (A 116) n 1) (A 117) n (Ear A I n + 40) = K1 at ek
    obtain ⟨b0, b1, b2, b3, b4, b5⟩ := ek
    have b7 : K1 (A 117) = upd (I (A 117)) n (Ear A I n + 40) := b5.elim (fun h => absurd hel h.1) (fun h => h.2.2)
    have bt : Bt A I K1 (fun p => p < 110 ∨ (113 ≤ p ∧ p ≤ 117)) := fun p hp hP => b1 p (by omega) hp (by omega)
    have vn := (sa.2 n hn).2.2.cg bt (by omega) (by omega)
    have nb := nu.1.cg bt (by omega)
    have ns := (nu.2.1 n hn).1.cg bt (by omega) (by omega)
    have eb := (nu.2.1 n hn).2.1.cg bt (by omega) (fun p w1 w2 => by omega)
    have hN : nx A K1 n = nx A I n := nx.cg (bt 110 (by omega) (by omega)) (bt 112 (by omega) (by omega)) (bt 118 (by omega) (by omega)) (bt 121 (by omega) (by omega)) (bt 124 (by omega) (by omega))
    have hB : bar A K1 n (nx A I n) = bar2 A I n (Ear A I n + 40) (nx A I n) := by
      unfold bar bar2
      rw [bt 118 (by omega) (by omega), b7, upd_s]
    rw [M_next hs hn vn nb ns eb, ob_s, M_bars hs hn, ob_s, hN, hB]
    rcases bar2_c (A := A) (I := I) (n := n) (Ear A I n + 40) (nx A I n) with h | h
    · rw [cif_t h, if_neg (fun q => by rw [q] at h; exact absurd h (by decide))]
    · rw [cif_f (fun q => by rw [h] at q; exact absurd q (by decide)), if_pos h]
  · refine ⟨K0, ⟨fun p hp => k0 p (by omega) (by omega), fun p h1 h2 h3 => by rw [k0 p h2 (by omega), mr p h1 h2], l3, l4, l5, Or.inl ⟨hel, l6, by rw [k0 117 (by omega) (by omega), mr 117 (by omega) (by omega)]⟩⟩, ?_⟩
    rw [cif_f hel] at e0
    rw [cif_f hel, e0]
end
