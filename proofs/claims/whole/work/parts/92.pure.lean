section
variable {R : Nat → Nat → Nat} {A : Nat → Nat} {I J : St} {n m : Nat} {x : Int32}
/-- n is elected -/
def Ele (A : Nat → Nat) (I : St) (n : Nat) (x : Int32) : Prop := Gt A I n x n ∧ ∃ m, m / 3 = n / 3 ∧ m ≠ n ∧ Gt A I n x m
theorem MR.gt (h : MR A I J) : Gt A J n x = Gt A I n x := by
  funext k
  unfold Gt Fre Beh lE Ear
  rw [h 110 (by omega) (by omega), h 111 (by omega) (by omega), h 112 (by omega) (by omega), h 113 (by omega) (by omega), h 114 (by omega) (by omega), h 115 (by omega) (by omega), h 118 (by omega) (by omega), h 120 (by omega) (by omega)]
noncomputable def q3 (Q : Nat → Prop) (n : Nat) : Nat := qn Q (3 * (n / 3)) + qn Q (3 * (n / 3) + 1) + qn Q (3 * (n / 3) + 2)
theorem qn_t {Q : Nat → Prop} (h : Q m) : qn Q m = 1 := cif_t h
theorem qn_f {Q : Nat → Prop} (h : ¬ Q m) : qn Q m = 0 := cif_f h
theorem q3_le (Q : Nat → Prop) (n : Nat) : q3 Q n ≤ 3 := by
  have h1 := qn_le Q (3 * (n / 3))
  have h2 := qn_le Q (3 * (n / 3) + 1)
  have h3 := qn_le Q (3 * (n / 3) + 2)
  unfold q3
  omega
theorem q3_z {Q : Nat → Prop} : q3 Q n = 0 ↔ ¬ ∃ m, m / 3 = n / 3 ∧ Q m := by
  unfold q3
  constructor
  · rintro h ⟨m, h1, h2⟩
    have := qn_t h2
    rcases (show m = 3 * (n / 3) ∨ m = 3 * (n / 3) + 1 ∨ m = 3 * (n / 3) + 2 by omega) with e | e | e <;> rw [e] at this <;> omega
  · intro h
    rw [qn_f (fun q => h ⟨_, by omega, q⟩), qn_f (fun q => h ⟨_, by omega, q⟩), qn_f (fun q => h ⟨_, by omega, q⟩)]
theorem q3_o {Q : Nat → Prop} (h : Q n) : q3 Q n = q3 (fun m => Q m ∧ m ≠ n) n + 1 := by
  have other : ∀ m, m ≠ n → qn (fun m => Q m ∧ m ≠ n) m = qn Q m := fun m hm => by
    by_cases q : Q m
    · rw [qn_t q, qn_t (Q := fun m => Q m ∧ m ≠ n) ⟨q, hm⟩]
    · rw [qn_f q, qn_f (Q := fun m => Q m ∧ m ≠ n) (fun h => q h.1)]
  have self : qn (fun m => Q m ∧ m ≠ n) n = 0 := qn_f (fun h => h.2 rfl)
  have one := qn_t h
  unfold q3
  rcases (show n = 3 * (n / 3) ∨ n = 3 * (n / 3) + 1 ∨ n = 3 * (n / 3) + 2 by omega) with e | e | e
  · rw [other (3 * (n / 3) + 1) (by omega), other (3 * (n / 3) + 2) (by omega), ← e, self, one]; omega
  · rw [other (3 * (n / 3)) (by omega), other (3 * (n / 3) + 2) (by omega), ← e, self, one]; omega
  · rw [other (3 * (n / 3)) (by omega), other (3 * (n / 3) + 1) (by omega), ← e, self, one]
theorem M_elect1 (hs : Sx R A) (va : ∀ n, n < 6 → VN A I n) (hn : n < 6) (hu : I (A 111) n = 0) {e : Nat} (he : e ≤ 100000) (hep : I (A 113) n = nI e) (hx : x = nI (nE e n)) : ∃ K0, Lg A I (n / 3) (3 * (n / 3) + 3) n x (Gt A I n x) K0 ∧ F_Model_elect R (A 110) (nI n) I = cif (Ele A I n x) (ob (F_Model_next R (A 110) (nI n) (up2 (up2 K0 (A 116) n 1) (A 117) n (Ear A I n + 40))) (fun v => ob (F_Model_bars R (A 110) (nI n) v (up2 (up2 K0 (A 116) n 1) (A 117) n (Ear A I n + 40))) (fun b => if b = 0 then ob (F_Model_put R (A 110) (nI n) 0 (-1) (-1) v (up2 (up2 K0 (A 116) n 1) (A 117) n (Ear A I n + 40))) (fun K => some (x, K)) else some (x, up2 (up2 K0 (A 116) n 1) (A 117) n (Ear A I n + 40))))) (some (0, K0)) := by
  have RS := hs.all
  obtain ⟨J1, e1, p1⟩ := M_el1 (J := I) (x := x) hs va hn rfl 99 0 False (Nat.le_refl _) (by omega) Lg.init
  obtain ⟨J2, e2, p2⟩ := M_el1 (x := x) hs va hn rfl 98 (0 + qn (fun m => Gt A I n x m ∧ m ≠ n) (3 * (n / 3))) (False ∨ (Gt A I n x (3 * (n / 3)) ∧ 3 * (n / 3) = n)) (by omega) (by omega) p1
  obtain ⟨J3, e3, p3⟩ := M_el1 (x := x) hs va hn rfl 97 (0 + qn (fun m => Gt A I n x m ∧ m ≠ n) (3 * (n / 3)) + qn (fun m => Gt A I n x m ∧ m ≠ n) (3 * (n / 3) + 1)) ((False ∨ (Gt A I n x (3 * (n / 3)) ∧ 3 * (n / 3) = n)) ∨ (Gt A I n x (3 * (n / 3) + 1) ∧ 3 * (n / 3) + 1 = n)) (by omega) (by omega) p2
  have hcnt : 0 + qn (fun m => Gt A I n x m ∧ m ≠ n) (3 * (n / 3)) + qn (fun m => Gt A I n x m ∧ m ≠ n) (3 * (n / 3) + 1) + qn (fun m => Gt A I n x m ∧ m ≠ n) (3 * (n / 3) + 2) = q3 (fun m => Gt A I n x m ∧ m ≠ n) n := by unfold q3; omega
  have hle := q3_le (fun m => Gt A I n x m ∧ m ≠ n) n
  have hP : (((False ∨ (Gt A I n x (3 * (n / 3)) ∧ 3 * (n / 3) = n)) ∨ (Gt A I n x (3 * (n / 3) + 1) ∧ 3 * (n / 3) + 1 = n)) ∨ (Gt A I n x (3 * (n / 3) + 2) ∧ 3 * (n / 3) + 2 = n)) ↔ Gt A I n x n := by
    constructor
    · rintro (((h | h) | h) | h)
      · exact h.elim
      · have h1 := h.1
        rw [h.2] at h1
        exact h1
      · have h1 := h.1
        rw [h.2] at h1
        exact h1
      · have h1 := h.1
        rw [h.2] at h1
        exact h1
    · intro h
      rcases (show 3 * (n / 3) = n ∨ 3 * (n / 3) + 1 = n ∨ 3 * (n / 3) + 2 = n by omega) with q | q | q
      · exact Or.inl (Or.inl (Or.inr ⟨by rw [q]; exact h, q⟩))
      · exact Or.inl (Or.inr ⟨by rw [q]; exact h, q⟩)
      · exact Or.inr ⟨by rw [q]; exact h, q⟩
  rw [hcnt, bI_c hP] at e3
  rw [show nI 0 = (0 : Int32) from rfl, bI_f (P := False) (fun h => h)] at e1
  refine ⟨J3, p3, ?_⟩
  have jm : ∀ p, p < 131 → ¬ (113 ≤ p ∧ p ≤ 116) → J3 (A p) = I (A p) := fun p q1 q2 => p3.1 p q1 q2
  unfold F_Model_elect
  rw [bel6 R I hn, ob_s, if_neg (by decide)]
  simp only [chk_nI hn (show 6 < 2 ^ 31 by omega), nI_clamp (show n < 2 ^ 31 by omega), RS]
  rw [if_pos hu, hep, nI_1, M_elE hn he, ← hx, e1, e2, e3, B_Model_elect_56, nd3 (by omega), n3', np3, if_pos (nI_le (by omega) (by omega)), bI_if]
  unfold B_Model_elect_147 B_Model_elect_197
  have hE : Ear A (up2 J3 (A 116) n 1) n = Ear A I n := by
    unfold Ear
    rw [V_row hs _ _ _ (p := 116) (by omega) (by omega) (by omega), V_row hs _ _ _ (p := 116) (by omega) (by omega) (by omega), jm 110 (by omega) (by omega), jm 112 (by omega) (by omega)]
  simp only [chk_nI hn (show 6 < 2 ^ 31 by omega), nI_clamp (show n < 2 ^ 31 by omega), RS, ap_s, z1, M_earliest hs hn, ob_s, hE]
  by_cases h1 : Gt A I n x n
  · rw [if_pos h1]
    by_cases h2 : q3 (fun m => Gt A I n x m ∧ m ≠ n) n = 0
    · rw [h2, if_pos (show nI 0 = (0 : Int32) from rfl), cif_f]
      rintro ⟨-, m, w1, w2, w3⟩
      exact q3_z.mp h2 ⟨m, w1, w3, w2⟩
    · rw [if_neg (show ¬ nI _ = (0 : Int32) from fun q => h2 (nI_inj (b := 0) (by omega) (by omega) q)), cif_t]
      refine ⟨h1, ?_⟩
      apply Classical.byContradiction
      intro hno
      exact h2 (q3_z.mpr (fun ⟨m, w1, w2, w3⟩ => hno ⟨m, w1, w3, w2⟩))
  · rw [if_neg h1, cif_f (fun h => h1 h.1)]
/-- what an election does -/
def ElE (A : Nat → Nat) (I K : St) (n : Nat) (x : Int32) : Prop := (∀ p, p < 110 → (∀ m, n / 3 = m / 3 → p ≠ 4 + 7 * m) → ¬ (5 + 7 * n ≤ p ∧ p < 11 + 7 * n) → K (A p) = I (A p)) ∧ (∀ m, n / 3 = m / 3 → m ≠ n → K (A (4 + 7 * m)) = cif (Gt A I n x m) (rE A I n x m) (I (A (4 + 7 * m)))) ∧
  (∀ p, 110 ≤ p → p < 131 → ¬ (113 ≤ p ∧ p ≤ 118) → ¬ (120 ≤ p ∧ p < 125) → K (A p) = I (A p)) ∧
  (∀ j, K (A 113) j = cif (3 * (n / 3) ≤ j ∧ j < 3 * (n / 3) + 3 ∧ Gt A I n x j) x (I (A 113) j)) ∧ (∀ j, K (A 114) j = cif (3 * (n / 3) ≤ j ∧ j < 3 * (n / 3) + 3 ∧ Gt A I n x j) (pm A I j) (I (A 114) j)) ∧ (∀ j, K (A 115) j = cif (3 * (n / 3) ≤ j ∧ j < 3 * (n / 3) + 3 ∧ Gt A I n x j) (nI n) (I (A 115) j)) ∧
  ((¬ Ele A I n x ∧ K (A (4 + 7 * n)) = cif (Gt A I n x n) (rE A I n x n) (I (A (4 + 7 * n))) ∧ (∀ j, K (A 116) j = cif (3 * (n / 3) ≤ j ∧ j < 3 * (n / 3) + 3 ∧ Gt A I n x j) 0 (I (A 116) j)) ∧ K (A 117) = I (A 117) ∧ PE0 A I K n) ∨
   (Ele A I n x ∧ K (A (4 + 7 * n)) = upd (upd (rE A I n x n) 4 1) 7 (Ear A I n + 40) ∧ (∀ j, K (A 116) j = if j = n then 1 else cif (3 * (n / 3) ≤ j ∧ j < 3 * (n / 3) + 3 ∧ Gt A I n x j) 0 (I (A 116) j)) ∧ K (A 117) = upd (I (A 117)) n (Ear A I n + 40) ∧ (PE0 A I K n ∨ ∃ ln, ¬ Ear A I n + 40 ≤ nx A I n ∧ PE1 A I K n ln x (nx A I n) 0 (-1) (-1))))
end
