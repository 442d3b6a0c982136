section
variable {R : Nat → Nat → Nat} {A : Nat → Nat} {I J : St} {n t g : Nat}
/-- what the reference has of one node is the same -/
def GE (A : Nat → Nat) (I J : St) (n : Nat) : Prop := J (A 110) = I (A 110) ∧ (∀ p, 111 ≤ p → p < 120 → J (A p) n = I (A p) n) ∧ ∀ p, 120 ≤ p → p < 125 → ∀ k, k < 60 → J (A p) (60 * n + k) = I (A p) (60 * n + k)
theorem GE.vn (h : GE A I J n) (v : VN A I n) : VN A J n := by
  unfold VN
  rw [h.2.1 118 (by omega) (by omega), h.2.1 119 (by omega) (by omega)]
  exact v
theorem GE.nb (h : GE A I J n) (v : NB A I) : NB A J := by
  unfold NB
  rw [h.1]
  exact v
theorem GE.ns (h : GE A I J n) (v : NS A I n) : NS A J n := by
  unfold NS
  rw [h.1, h.2.1 112 (by omega) (by omega)]
  exact v
theorem GE.eb (h : GE A I J n) (vn : VN A I n) (v : EB A I n) : EB A J n := by
  obtain ⟨v1, v2, v3, v4⟩ := vn.s
  intro j hj
  rw [h.2.1 118 (by omega) (by omega)] at hj
  have hj60 : j < 60 := by
    have : j < lnN A I n := hj
    omega
  rw [h.2.2 121 (by omega) (by omega) j hj60, h.2.2 122 (by omega) (by omega) j hj60, h.2.2 124 (by omega) (by omega) j hj60]
  exact v j hj
theorem GE.lat (h : GE A I J n) : Lat A J n = Lat A I n := by
  unfold Lat
  rw [h.1, h.2.1 112 (by omega) (by omega)]
theorem GE.nx (h : GE A I J n) (vn : VN A I n) : nx A J n = nx A I n := by
  obtain ⟨v1, v2, v3, v4⟩ := vn.s
  have hg : ∀ k, k ≤ 60 → gm A J n k = gm A I n k := by
    intro k
    induction k with
    | zero => intro _; rfl
    | succ k ih =>
      intro hk
      unfold gm
      rw [ih (by omega), h.2.2 121 (by omega) (by omega) k (by omega), h.2.2 124 (by omega) (by omega) k (by omega)]
  have hl : (I (A 118) n).toNatClampNeg ≤ 60 := v4
  show Int32.ofInt (nxI A J n) = Int32.ofInt (nxI A I n)
  unfold nxI
  rw [h.lat, h.2.1 118 (by omega) (by omega), hg _ hl]
theorem GE.rd (h : GE A I J n) (vn : VN A I n) : Rdy A J n = Rdy A I n := by
  obtain ⟨v1, v2, v3, v4⟩ := vn.s
  refine Rdy.c2 h.1 (h.2.1 _ (by omega) (by omega)) (h.2.1 _ (by omega) (by omega)) (h.2.1 _ (by omega) (by omega)) (h.2.1 _ (by omega) (by omega)) (h.2.1 _ (by omega) (by omega)) (fun k hk => h.2.2 120 (by omega) (by omega) k ?_)
  have : k < knN A I n := hk
  omega
theorem GE.rdy (hg : g < 2) (h : ∀ n, n / 3 = g → GE A I J n) (vn : ∀ n, n / 3 = g → VN A I n) : rdy A J g = rdy A I g := by
  have r : ∀ n, n / 3 = g → Rdy A J n = Rdy A I n := fun n hn => (h n hn).rd (vn n hn)
  show cif (Rdy A J (3 * g)) (nI (3 * g)) (cif (Rdy A J (3 * g + 1)) (nI (3 * g + 1)) (cif (Rdy A J (3 * g + 2)) (nI (3 * g + 2)) (-1))) = _
  rw [r (3 * g) (by omega), r (3 * g + 1) (by omega), r (3 * g + 2) (by omega)]
  rfl
theorem GE.of (h : Bt A I J (fun p => p < 110 ∨ 125 ≤ p)) : GE A I J n := ⟨h 110 (by omega) (by omega), fun p q1 q2 => by rw [h p (by omega) (by omega)], fun p q1 q2 k hk => by rw [h p (by omega) (by omega)]⟩
/-- an entry at another node -/
theorem GE.put {m ln : Nat} {ep st kd ow ou : Int32} (hnm : n ≠ m) (hln : ln < 60) (h : PuM A I J m ln ep st kd ow ou) : GE A I J n := by
  obtain ⟨h0, h8, c0, c1, c2, c3, c4⟩ := h
  refine ⟨h0 110 (by omega) (by omega), fun p q1 q2 => ?_, fun p q1 q2 k hk => ?_⟩
  · by_cases e : p = 118
    · subst e; rw [h8, upd_n _ _ hnm]
    · rw [h0 p (by omega) (by omega)]
  · have hne : 60 * n + k ≠ 60 * m + ln := by omega
    rcases (show p = 120 ∨ p = 121 ∨ p = 122 ∨ p = 123 ∨ p = 124 by omega) with e | e | e | e | e <;> subst e
    · rw [c0, upd_n _ _ hne]
    · rw [c1, upd_n _ _ hne]
    · rw [c2, upd_n _ _ hne]
    · rw [c3, upd_n _ _ hne]
    · rw [c4, upd_n _ _ hne]
theorem GE.trans {K : St} (h1 : GE A I J n) (h2 : GE A J K n) : GE A I K n := ⟨h2.1.trans h1.1, fun p q1 q2 => (h2.2.1 p q1 q2).trans (h1.2.1 p q1 q2), fun p q1 q2 k hk => (h2.2.2 p q1 q2 k hk).trans (h1.2.2 p q1 q2 k hk)⟩
theorem GE.has (h : GE A I J n) (vn : VN A I n) (w o : Int32) : HasE A J n w o = HasE A I n w o := by
  obtain ⟨v1, v2, v3, v4⟩ := vn.s
  have key : ∀ j, j < (I (A 118) n).toNatClampNeg → (Mt A J n w o j ↔ Mt A I n w o j) := fun j hj => by
    have hj60 : j < 60 := by
      have : j < lnN A I n := hj
      omega
    unfold Mt
    rw [h.2.2 122 (by omega) (by omega) j hj60, h.2.2 123 (by omega) (by omega) j hj60]
  unfold HasE
  rw [h.2.1 118 (by omega) (by omega)]
  exact propext ⟨fun ⟨j, h1, h2⟩ => ⟨j, h1, (key j h1).mp h2⟩, fun ⟨j, h1, h2⟩ => ⟨j, h1, (key j h1).mpr h2⟩⟩
theorem GE.bar (h : GE A I J n) (x : Int32) : bar A J n x = bar A I n x := by
  show cif (J (A 118) n = 60) (-6) (cif (J (A 117) n ≤ x) (-7) 0) = _
  rw [h.2.1 118 (by omega) (by omega), h.2.1 117 (by omega) (by omega)]
  rfl
end
