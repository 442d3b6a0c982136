section
theorem ia {a b : Int32} (h1 : -2147483648 ≤ a.toInt + b.toInt) (h2 : a.toInt + b.toInt < 2147483648) : (a + b).toInt = a.toInt + b.toInt := by
  rw [Int32.toInt_add]
  exact Int.bmod_eq_of_le (by omega) (by omega)
theorem is9 {a b : Int32} (h1 : -2147483648 ≤ a.toInt - b.toInt) (h2 : a.toInt - b.toInt < 2147483648) : (a - b).toInt = a.toInt - b.toInt := by
  rw [Int32.toInt_sub]
  exact Int.bmod_eq_of_le (by omega) (by omega)
theorem ile {a b : Int32} : a ≤ b ↔ a.toInt ≤ b.toInt := Int32.le_iff_toInt_le
theorem ilt {a b : Int32} : a < b ↔ a.toInt < b.toInt := Int32.lt_iff_toInt_lt
theorem ieq {a b : Int32} : a = b ↔ a.toInt = b.toInt := Int32.toInt_inj.symm
def mxI (a b : Int) : Int := if a < b then b else a
theorem mx_s (a b : Int) : a ≤ mxI a b ∧ b ≤ mxI a b ∧ (mxI a b = a ∨ mxI a b = b) := by
  unfold mxI
  by_cases h : a < b
  · rw [if_pos h]; omega
  · rw [if_neg h]; omega
theorem imax_t (x y : Int32) : (imax x y).toInt = mxI x.toInt y.toInt := by
  unfold imax mxI
  by_cases h : x < y
  · rw [if_pos h, if_pos (ilt.mp h)]
  · rw [if_neg h, if_neg (fun e => h (ilt.mpr e))]
theorem t0 : (0 : Int32).toInt = 0 := by decide
theorem t1 : (1 : Int32).toInt = 1 := by decide
theorem tm1 : (-1 : Int32).toInt = -1 := by decide
/-- the numbers stay small -/
def NB (A : Nat → Nat) (I : St) : Prop := 0 ≤ (I (A 110) 0).toInt ∧ (I (A 110) 0).toInt ≤ 10 ∧ 0 ≤ (I (A 110) 1).toInt ∧ (I (A 110) 1).toInt ≤ 30000
def NS (A : Nat → Nat) (I : St) (n : Nat) : Prop := -(I (A 110) 0).toInt ≤ (I (A 112) n).toInt ∧ (I (A 112) n).toInt ≤ (I (A 110) 0).toInt
def EB (A : Nat → Nat) (I : St) (n : Nat) : Prop := ∀ j, j < (I (A 118) n).toNatClampNeg → 0 ≤ (I (A 121) (60 * n + j)).toInt ∧ (I (A 121) (60 * n + j)).toInt ≤ 40000 ∧ -1 ≤ (I (A 124) (60 * n + j)).toInt ∧ (I (A 124) (60 * n + j)).toInt ≤ 40000 ∧ (¬ I (A 122) (60 * n + j) = 3 → I (A 124) (60 * n + j) = -1)
variable {R : Nat → Nat → Nat} {A : Nat → Nat} {I : St} {n : Nat}
theorem Lat_t (nb : NB A I) (ns : NS A I n) : (Lat A I n).toInt = (I (A 110) 1).toInt + (I (A 112) n).toInt + (I (A 110) 0).toInt := by
  obtain ⟨b1, b2, b3, b4⟩ := nb
  obtain ⟨s1, s2⟩ := ns
  unfold Lat
  rw [ia (by rw [ia (by omega) (by omega)]; omega) (by rw [ia (by omega) (by omega)]; omega), ia (by omega) (by omega)]
theorem Ear_t (nb : NB A I) (ns : NS A I n) : (Ear A I n).toInt = (I (A 110) 1).toInt + (I (A 112) n).toInt - (I (A 110) 0).toInt := by
  obtain ⟨b1, b2, b3, b4⟩ := nb
  obtain ⟨s1, s2⟩ := ns
  unfold Ear
  rw [is9 (by rw [ia (by omega) (by omega)]; omega) (by rw [ia (by omega) (by omega)]; omega), ia (by omega) (by omega)]
/-- the greatest of the first k stamps, those in OUTCOMEs too -/
def gm (A : Nat → Nat) (I : St) (n : Nat) : Nat → Int
  | 0 => -1
  | k + 1 => mxI (gm A I n k) (mxI (I (A 121) (60 * n + k)).toInt (I (A 124) (60 * n + k)).toInt)
theorem gm_b (eb : EB A I n) : ∀ k, k ≤ (I (A 118) n).toNatClampNeg → -1 ≤ gm A I n k ∧ gm A I n k ≤ 40000 := by
  intro k
  induction k with
  | zero => intro _; unfold gm; omega
  | succ k ih =>
    intro hk
    have h1 := ih (by omega)
    obtain ⟨e1, e2, e3, e4, -⟩ := eb k (by omega)
    unfold gm
    have m1 := mx_s (gm A I n k) (mxI (I (A 121) (60 * n + k)).toInt (I (A 124) (60 * n + k)).toInt)
    have m2 := mx_s (I (A 121) (60 * n + k)).toInt (I (A 124) (60 * n + k)).toInt
    omega
def nxI (A : Nat → Nat) (I : St) (n : Nat) : Int := mxI (Lat A I n).toInt (gm A I n (I (A 118) n).toNatClampNeg + 1)
def nx (A : Nat → Nat) (I : St) (n : Nat) : Int32 := Int32.ofInt (nxI A I n)
theorem nxI_b (nb : NB A I) (ns : NS A I n) (eb : EB A I n) : 0 ≤ nxI A I n ∧ nxI A I n ≤ 40001 := by
  have h1 := gm_b eb _ (Nat.le_refl _)
  have h2 := Lat_t nb ns
  obtain ⟨b1, b2, b3, b4⟩ := nb
  obtain ⟨s1, s2⟩ := ns
  unfold nxI
  have m1 := mx_s (Lat A I n).toInt (gm A I n (I (A 118) n).toNatClampNeg + 1)
  omega
theorem ofI {x : Int} (h1 : -2147483648 ≤ x) (h2 : x < 2147483648) : (Int32.ofInt x).toInt = x := by
  rw [Int32.toInt_ofInt]
  have hz : Int32.size = 4294967296 := rfl
  exact Int.bmod_eq_of_le (by rw [hz]; omega) (by rw [hz]; omega)
theorem nx_t (nb : NB A I) (ns : NS A I n) (eb : EB A I n) : (nx A I n).toInt = nxI A I n := by
  have := nxI_b nb ns eb
  unfold nx
  exact ofI (by omega) (by omega)
theorem C_gr (hs : Sx R A) (hn : n < 6) (sl : SL A I n) {ln : Nat} (hk : ln ≤ 60) (hln : I (A (5 + 7 * n)) 5 = nI ln) : ∀ m k f (x : Int32), k + m = ln → m < f → x.toInt = gm A I n k → ∃ r, B_Log_greatestStamp_4 R I f (A (5 + 7 * n)) x (nI k) = some r ∧ r.toInt = gm A I n ln := by
  have RS := hs.all
  intro m
  induction m with
  | zero =>
    intro k f x hkm hf hx
    obtain ⟨f, rfl⟩ : ∃ g, f = g + 1 := ⟨f - 1, by omega⟩
    have : k = ln := by omega
    subst this
    exact ⟨x, by rw [B_Log_greatestStamp_4, hln, if_pos (nI_le (by omega) (by omega))], hx⟩
  | succ m ih =>
    intro k f x hkm hf hx
    obtain ⟨f, rfl⟩ : ∃ g, f = g + 1 := ⟨f - 1, by omega⟩
    obtain ⟨-, e1, -, -, e4⟩ := sl k (by omega)
    rw [B_Log_greatestStamp_4, hln, if_neg (nI_ge (by omega) (by omega)), chk_nI (by omega) (by omega), chk_nI (by omega) (by omega), nI_clamp (by omega), nI_1]
    simp only [RS, hn, e1, e4]
    refine ih (k + 1) f _ (by omega) (by omega) ?_
    rw [imax_t, imax_t, hx]
    rfl
theorem C_nextStamp (hs : Sx R A) (hn : n < 6) (c : SC A I) (sn : SN A I n) (sl : SL A I n) (vn : VN A I n) (nb : NB A I) (ns : NS A I n) (eb : EB A I n) : F_Node_nextStamp R (A (4 + 7 * n)) I = some (nx A I n) := by
  have RS := hs.all
  have hnx := nx_t nb ns eb
  have hgb := gm_b eb _ (Nat.le_refl _)
  obtain ⟨ln, kn, v1, v2, v3, v4⟩ := vn
  have hl := sn.2.2.2.2.2.2.2.2.1
  unfold F_Node_nextStamp F_Log_greatestStamp
  rw [C_latest hs hn c sn, ob_s]
  simp only [RS, hn]
  obtain ⟨r, e, h⟩ := C_gr hs hn sl (ln := ln) v4 (by rw [hl]; exact v1) ln 0 100 (-1) (by omega) (by omega) (by rw [tm1]; rfl)
  rw [show nI 0 = (0 : Int32) from rfl] at e
  rw [e, ob_s]
  congr 1
  rw [ieq, imax_t, hnx]
  rw [v1, nI_clamp (by omega)] at hgb
  unfold nxI
  rw [v1, nI_clamp (by omega), ia (by rw [h, t1]; omega) (by rw [h, t1]; omega), h, t1]
theorem M_nx (hs : Sx R A) (hn : n < 6) (eb : EB A I n) {ln : Nat} (hk : ln ≤ 60) (hln : I (A 118) n = nI ln) {L0 : Int} (h0 : 0 ≤ L0) (h9 : L0 ≤ 40000) : ∀ m k f (x : Int32), k + m = ln → m < f → x.toInt = mxI L0 (gm A I n k + 1) → ∃ r, B_Model_next_11 R I f (A 110) (nI n) x (nI (60 * n + k)) = some r ∧ r.toInt = mxI L0 (gm A I n ln + 1) := by
  have RS := hs.all
  intro m
  induction m with
  | zero =>
    intro k f x hkm hf hx
    obtain ⟨f, rfl⟩ : ∃ g, f = g + 1 := ⟨f - 1, by omega⟩
    have : k = ln := by omega
    subst this
    refine ⟨x, ?_, hx⟩
    rw [B_Model_next_11, chk_nI hn (by omega), nI_clamp (by omega)]
    simp only [RS]
    rw [hln, n60, if_pos (nI_le (by omega) (by omega))]
  | succ m ih =>
    intro k f x hkm hf hx
    obtain ⟨f, rfl⟩ : ∃ g, f = g + 1 := ⟨f - 1, by omega⟩
    obtain ⟨e1, e2, e3, e4, e5⟩ := eb k (by rw [hln, nI_clamp (by omega)]; omega)
    have hgk := gm_b eb k (by rw [hln, nI_clamp (by omega)]; omega)
    rw [B_Model_next_11]
    unfold B_Model_next_48 B_Model_next_80 B_Model_next_81
    rw [chk_nI hn (by omega), nI_clamp (by omega)]
    simp only [RS]
    rw [hln, n60, if_neg (nI_ge (by omega) (by omega))]
    simp only [chk_nI (show 60 * n + k < 360 by omega) (show 360 < 2 ^ 31 by omega), nI_clamp (show 60 * n + k < 2 ^ 31 by omega), nI_1]
    have key : ∀ y : Int32, y.toInt = mxI x.toInt ((I (A 121) (60 * n + k)).toInt + 1) → ∃ r, (if I (A 122) (60 * n + k) = (3 : Int32) then (if I (A 124) (60 * n + k) < y then B_Model_next_11 R I f (A 110) (nI n) y (nI (60 * n + k + 1)) else B_Model_next_11 R I f (A 110) (nI n) (I (A 124) (60 * n + k) + (1 : Int32)) (nI (60 * n + k + 1))) else B_Model_next_11 R I f (A 110) (nI n) y (nI (60 * n + k + 1))) = some r ∧ r.toInt = mxI L0 (gm A I n ln + 1) := by
      intro y hy
      have hgs : gm A I n (k + 1) = mxI (gm A I n k) (mxI (I (A 121) (60 * n + k)).toInt (I (A 124) (60 * n + k)).toInt) := rfl
      have m1 := mx_s (gm A I n k) (mxI (I (A 121) (60 * n + k)).toInt (I (A 124) (60 * n + k)).toInt)
      have m2 := mx_s (I (A 121) (60 * n + k)).toInt (I (A 124) (60 * n + k)).toInt
      have m3 := mx_s x.toInt ((I (A 121) (60 * n + k)).toInt + 1)
      have m4 := mx_s L0 (gm A I n k + 1)
      have m5 := mx_s L0 (gm A I n (k + 1) + 1)
      by_cases h3 : I (A 122) (60 * n + k) = (3 : Int32)
      · rw [if_pos h3]
        by_cases h4 : I (A 124) (60 * n + k) < y
        · rw [if_pos h4]
          rw [ilt] at h4
          exact ih (k + 1) f y (by omega) (by omega) (by omega)
        · rw [if_neg h4]
          rw [ilt] at h4
          exact ih (k + 1) f _ (by omega) (by omega) (by rw [ia (by rw [t1]; omega) (by rw [t1]; omega), t1]; omega)
      · rw [if_neg h3]
        have e6 := e5 h3
        rw [ieq, tm1] at e6
        exact ih (k + 1) f y (by omega) (by omega) (by omega)
    have m3 := mx_s x.toInt ((I (A 121) (60 * n + k)).toInt + 1)
    by_cases h1 : I (A 121) (60 * n + k) < x
    · rw [if_pos h1]
      rw [ilt] at h1
      exact key x (by omega)
    · rw [if_neg h1]
      rw [ilt] at h1
      exact key _ (by rw [ia (by rw [t1]; omega) (by rw [t1]; omega), t1]; omega)
theorem M_next (hs : Sx R A) (hn : n < 6) (vn : VN A I n) (nb : NB A I) (ns : NS A I n) (eb : EB A I n) : F_Model_next R (A 110) (nI n) I = some (nx A I n) := by
  have hnx := nx_t nb ns eb
  have hL := Lat_t nb ns
  obtain ⟨b1, b2, b3, b4⟩ := nb
  obtain ⟨s1, s2⟩ := ns
  obtain ⟨ln, kn, v1, v2, v3, v4⟩ := vn
  unfold F_Model_next
  rw [M_latest hs hn, ob_s]
  have m4 := mx_s (Lat A I n).toInt (gm A I n 0 + 1)
  have g0 : gm A I n 0 = -1 := rfl
  obtain ⟨r, e, h⟩ := M_nx hs hn eb (ln := ln) v4 v1 (L0 := (Lat A I n).toInt) (by omega) (by omega) ln 0 100 (Lat A I n) (by omega) (by omega) (by omega)
  have e60 : (60 : Int32) * nI n = nI (60 * n + 0) := by rw [show (60 : Int32) = nI 60 from rfl, pk_mul]; rfl
  rw [e60, e]
  congr 1
  rw [ieq, hnx, h]
  unfold nxI
  rw [v1, nI_clamp (by omega)]
noncomputable def bar (A : Nat → Nat) (I : St) (n : Nat) (x : Int32) : Int32 := cif (I (A 118) n = 60) (-6) (cif (I (A 117) n ≤ x) (-7) 0)
theorem C_refusalOf (hs : Sx R A) (hn : n < 6) (sn : SN A I n) (vn : VN A I n) (x : Int32) : F_Node_refusalOf R (A (4 + 7 * n)) x I = some (bar A I n x) := by
  have RS := hs.all
  obtain ⟨ln, kn, v1, v2, v3, v4⟩ := vn
  have hl := sn.2.2.2.2.2.2.2.2.1
  have h7 := sn.2.2.2.2.2.1
  unfold F_Node_refusalOf F_Log_isFull bar
  simp only [RS, hn]
  rw [hl, v1, h7]
  by_cases h : ln = 60
  · subst h
    rw [if_neg (by decide), ob_s, if_neg (by decide), cif_t (P := nI 60 = 60) rfl]
  · have hlt : nI ln < (60 : Int32) := nI_lt (a := ln) (b := 60) (by omega) (by omega)
    rw [if_pos hlt, ob_s, if_pos rfl, cif_f (P := nI ln = 60) (fun e => h (nI_inj (b := 60) (by omega) (by omega) e))]
    by_cases h2 : I (A 117) n ≤ x
    · rw [if_pos h2, cif_t h2]
    · rw [if_neg h2, cif_f h2]
theorem M_bars (hs : Sx R A) (hn : n < 6) (x : Int32) : F_Model_bars R (A 110) (nI n) x I = some (bar A I n x) := by
  have RS := hs.all
  unfold F_Model_bars bar
  rw [chk_nI hn (by omega), chk_nI hn (by omega), nI_clamp (by omega)]
  simp only [RS]
  by_cases h : I (A 118) n = 60
  · rw [if_pos h, cif_t h]
  · rw [if_neg h, cif_f h]
    by_cases h2 : I (A 117) n ≤ x
    · rw [if_neg (fun e => by rw [ilt] at e; rw [ile] at h2; omega), cif_t h2]
    · rw [if_pos (by rw [ilt]; rw [ile] at h2; omega), cif_f h2]
end
