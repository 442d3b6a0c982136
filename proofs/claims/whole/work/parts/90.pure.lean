section
variable {R : Nat → Nat → Nat} {A : Nat → Nat} {I : St} {n e : Nat}
theorem im9 {a b : Int32} (h1 : -2147483648 ≤ a.toInt * b.toInt) (h2 : a.toInt * b.toInt < 2147483648) : (a * b).toInt = a.toInt * b.toInt := by
  rw [Int32.toInt_mul]
  exact Int.bmod_eq_of_le (by omega) (by omega)
theorem t3 : (3 : Int32).toInt = 3 := by decide
theorem rem3 (x : Int32) : (x - x / 3 * 3).toInt = x.toInt - x.toInt.tdiv 3 * 3 := by
  have hb1 : -2147483648 ≤ x.toInt := Int32.le_toInt x
  have hb2 : x.toInt < 2147483648 := Int32.toInt_lt x
  have hd : (x / 3).toInt = x.toInt.tdiv 3 := by rw [Int32.toInt_div_of_ne_right _ _ (by decide), t3]
  have hr : x.toInt.tdiv 3 * 3 + x.toInt.tmod 3 = x.toInt := by have := Int.tmod_add_mul_tdiv x.toInt 3; omega
  have hl : -3 < x.toInt.tmod 3 ∧ x.toInt.tmod 3 < 3 ∧ (0 ≤ x.toInt → 0 ≤ x.toInt.tmod 3) ∧ (x.toInt ≤ 0 → x.toInt.tmod 3 ≤ 0) := by
    by_cases h : 0 ≤ x.toInt
    · rw [Int.tmod_eq_emod_of_nonneg h]
      refine ⟨by omega, by omega, fun _ => by omega, fun _ => ?_⟩
      have : x.toInt = 0 := by omega
      rw [this]; decide
    · obtain ⟨y, hy⟩ : ∃ y : Int, x.toInt = -y := ⟨-x.toInt, by omega⟩
      rw [hy, Int.neg_tmod, Int.tmod_eq_emod_of_nonneg (by omega)]
      refine ⟨by omega, by omega, fun _ => by omega, fun _ => by omega⟩
  have hm : (x / 3 * 3).toInt = x.toInt.tdiv 3 * 3 := by
    rw [im9 (by rw [hd, t3]; omega) (by rw [hd, t3]; omega), hd, t3]
  rw [is9 (by rw [hm]; omega) (by rw [hm]; omega), hm]
theorem xr3 (x : Int32) : 0 ≤ (x ^^^ (3 : Int32)) ↔ 0 ≤ x.toInt := by
  have e : (x ^^^ (3 : Int32)).toBitVec.msb = x.toBitVec.msb := by
    rw [Int32.toBitVec_xor, BitVec.msb_xor]
    rw [show (3 : Int32).toBitVec.msb = false from by decide]
    simp
  rw [BitVec.msb_eq_toInt, BitVec.msb_eq_toInt] at e
  have e' : ((x ^^^ (3 : Int32)).toInt < 0) ↔ (x.toInt < 0) := by
    have := decide_eq_decide.mp e
    exact this
  rw [ile, t0]
  omega
/-- the next epoch of n's own after e -/
def nE (e n : Nat) : Nat := e + (if (n + 3 - e % 3) % 3 = 0 then 3 else (n + 3 - e % 3) % 3)
theorem C_nextOwn (h0 : I (A (4 + 7 * n)) 0 = nI n) (h6 : I (A (4 + 7 * n)) 6 = nI e) (hn : n < 6) (he : e ≤ 100000) : F_Node_nextOwnEpoch R (A (4 + 7 * n)) I = some (nI (nE e n)) := by
  have hx : (nI n - nI e).toInt = (n : Int) - e := by
    rw [is9 (by rw [nI_toInt (by omega), nI_toInt (by omega)]; omega) (by rw [nI_toInt (by omega), nI_toInt (by omega)]; omega), nI_toInt (by omega), nI_toInt (by omega)]
  have hr := rem3 (nI n - nI e)
  have hxr := xr3 (nI n - nI e)
  have fm : F_Math_floorMod R (nI n - nI e) 3 I = some (nI ((n + 3 - e % 3) % 3)) := by
    unfold F_Math_floorMod B_Math_floorMod_18
    rw [if_neg (by decide)]
    rw [hx] at hr hxr
    by_cases h : e ≤ n
    · rw [if_pos (hxr.mpr (by omega))]
      congr 1
      rw [ieq, hr, nI_toInt (by omega), Int.tdiv_eq_ediv_of_nonneg (by omega)]
      omega
    · rw [if_neg (fun q => by have := hxr.mp q; omega)]
      obtain ⟨y, hy⟩ : ∃ y : Nat, (n : Int) - e = -(y : Int) ∧ e = n + y := ⟨e - n, by omega⟩
      rw [hy.1, Int.neg_tdiv, Int.tdiv_eq_ediv_of_nonneg (by omega)] at hr
      by_cases hz : (nI n - nI e) - (nI n - nI e) / 3 * 3 = 0
      · rw [if_pos hz, hz]
        rw [hz, t0] at hr
        congr 1
        rw [ieq, nI_toInt (by omega), t0]
        omega
      · rw [if_neg hz]
        have hz' : ¬ ((nI n - nI e) - (nI n - nI e) / 3 * 3).toInt = 0 := fun q => hz (by rw [ieq, q, t0])
        congr 1
        rw [ieq, ia (by rw [hr, t3]; omega) (by rw [hr, t3]; omega), hr, t3, nI_toInt (by omega)]
        rw [hr] at hz'
        omega
  unfold F_Node_nextOwnEpoch B_Node_nextOwnEpoch_27
  rw [h0, h6, fm, ob_s]
  unfold nE
  by_cases h : (n + 3 - e % 3) % 3 = 0
  · rw [h, if_pos (show nI 0 = (0 : Int32) from rfl), if_pos rfl, np3]
  · rw [if_neg (show ¬ nI ((n + 3 - e % 3) % 3) = (0 : Int32) from fun q => h (nI_inj (b := 0) (by omega) (by omega) q)), if_neg h, nI_add]
theorem nm3 {y : Nat} (h : y < 2 ^ 31) : nI y - nI y / (3 : Int32) * (3 : Int32) = nI (y % 3) := by
  rw [ieq, rem3, nI_toInt h, nI_toInt (by omega), Int.tdiv_eq_ediv_of_nonneg (by omega)]
  omega
theorem M_elE (hn : n < 6) (he : e ≤ 100000) : B_Model_elect_29 R 100 (A 110) (nI n) (nI (e + 1)) I = B_Model_elect_56 R 100 (A 110) (nI n) (nI (nE e n)) 0 0 (nI (3 * (n / 3))) I := by
  have st : ∀ y f, y < 200000 → B_Model_elect_29 R (f + 1) (A 110) (nI n) (nI y) I = if y % 3 = n % 3 then B_Model_elect_56 R 100 (A 110) (nI n) (nI y) 0 0 (nI (3 * (n / 3))) I else B_Model_elect_29 R f (A 110) (nI n) (nI (y + 1)) I := by
    intro y f hy
    rw [B_Model_elect_29, nm3 (by omega), nm3 (by omega), nd3 (by omega), n3', nI_1]
    by_cases h : y % 3 = n % 3
    · rw [if_pos h, if_pos (by rw [h])]
    · rw [if_neg h, if_neg (fun q => h (nI_inj (by omega) (by omega) q))]
  rw [st (e + 1) 99 (by omega)]
  unfold nE
  by_cases h1 : (e + 1) % 3 = n % 3
  · rw [if_pos h1, show e + (if (n + 3 - e % 3) % 3 = 0 then 3 else (n + 3 - e % 3) % 3) = e + 1 by split <;> omega]
  · rw [if_neg h1, st (e + 1 + 1) 98 (by omega)]
    by_cases h2 : (e + 1 + 1) % 3 = n % 3
    · rw [if_pos h2, show e + (if (n + 3 - e % 3) % 3 = 0 then 3 else (n + 3 - e % 3) % 3) = e + 1 + 1 by split <;> omega]
    · rw [if_neg h2, st (e + 1 + 1 + 1) 97 (by omega), if_pos (by omega), show e + (if (n + 3 - e % 3) % 3 = 0 then 3 else (n + 3 - e % 3) % 3) = e + 1 + 1 + 1 by split <;> omega]
theorem nE_b : e < nE e n ∧ nE e n ≤ e + 3 ∧ nE e n % 3 = n % 3 := by
  unfold nE
  split <;> omega
end
