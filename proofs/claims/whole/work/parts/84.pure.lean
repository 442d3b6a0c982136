section
variable {R : Nat → Nat → Nat} {A : Nat → Nat} {I : St} {n m : Nat}
theorem C_latest2 (hs : Sx R A) (hn : n < 6) (c : SC A I) (s5 : I (A (4 + 7 * n)) 5 = I (A 112) n) : F_Node_latest R (A (4 + 7 * n)) I = some (Lat A I n) := by
  have RS := hs.all
  obtain ⟨c0, c1, c2⟩ := c
  unfold F_Node_latest Lat
  simp only [RS, hn, c0, c1, s5]
theorem C_earliest2 (hs : Sx R A) (hn : n < 6) (c : SC A I) (s5 : I (A (4 + 7 * n)) 5 = I (A 112) n) : F_Node_earliest R (A (4 + 7 * n)) I = some (Ear A I n) := by
  have RS := hs.all
  obtain ⟨c0, c1, c2⟩ := c
  unfold F_Node_earliest Ear
  simp only [RS, hn, c0, c1, s5]
theorem C_nextStamp2 (hs : Sx R A) (hn : n < 6) (c : SC A I) (s5 : I (A (4 + 7 * n)) 5 = I (A 112) n) (hl : I (A (5 + 7 * n)) 5 = I (A 118) n) (sl : SL A I n) (vn : VN A I n) (nb : NB A I) (ns : NS A I n) (eb : EB A I n) : F_Node_nextStamp R (A (4 + 7 * n)) I = some (nx A I n) := by
  have RS := hs.all
  have hnx := nx_t nb ns eb
  have hgb := gm_b eb _ (Nat.le_refl _)
  obtain ⟨ln, kn, v1, v2, v3, v4⟩ := vn
  unfold F_Node_nextStamp F_Log_greatestStamp
  rw [C_latest2 hs hn c s5, ob_s]
  simp only [RS, hn]
  obtain ⟨r, e, h⟩ := C_gr hs hn sl (ln := ln) v4 (by rw [hl]; exact v1) ln 0 100 (-1) (by omega) (by omega) (by rw [tm1]; rfl)
  rw [show nI 0 = (0 : Int32) from rfl] at e
  rw [e, ob_s]
  congr 1
  rw [ieq, imax_t, hnx]
  rw [v1, nI_clamp (by omega)] at hgb
  unfold nxI
  rw [v1, nI_clamp (by omega), ia (by rw [h, t1]; omega) (by rw [h, t1]; omega), h, t1]
noncomputable def bar2 (A : Nat → Nat) (I : St) (n : Nat) (le x : Int32) : Int32 := cif (I (A 118) n = 60) (-6) (cif (le ≤ x) (-7) 0)
theorem C_refusalOf2 (hs : Sx R A) (hn : n < 6) (hl : I (A (5 + 7 * n)) 5 = I (A 118) n) (vn : VN A I n) (x : Int32) : F_Node_refusalOf R (A (4 + 7 * n)) x I = some (bar2 A I n (I (A (4 + 7 * n)) 7) x) := by
  have RS := hs.all
  obtain ⟨ln, kn, v1, v2, v3, v4⟩ := vn
  unfold F_Node_refusalOf F_Log_isFull bar2
  simp only [RS, hn]
  rw [hl, v1]
  by_cases h : ln = 60
  · subst h
    rw [if_neg (by decide), ob_s, if_neg (by decide), cif_t (P := nI 60 = 60) rfl]
  · have hlt : nI ln < (60 : Int32) := nI_lt (a := ln) (b := 60) (by omega) (by omega)
    rw [if_pos hlt, ob_s, if_pos rfl, cif_f (P := nI ln = 60) (fun e => h (nI_inj (b := 60) (by omega) (by omega) e))]
    by_cases h2 : I (A (4 + 7 * n)) 7 ≤ x
    · rw [if_pos h2, cif_t h2]
    · rw [if_neg h2, cif_f h2]
theorem C_put2 (hs : Sx R A) (hn : n < 6) (c : SC A I) (s5 : I (A (4 + 7 * n)) 5 = I (A 112) n) (hl : I (A (5 + 7 * n)) 5 = I (A 118) n) (sl : SL A I n) (vn : VN A I n) (nb : NB A I) (ns : NS A I n) (eb : EB A I n) (kd ow ou least : Int32) : (bar2 A I n (I (A (4 + 7 * n)) 7) (imax (nx A I n) least) < 0 ∧ F_Node_put R (A (4 + 7 * n)) kd ow ou least I = some (bar2 A I n (I (A (4 + 7 * n)) 7) (imax (nx A I n) least), I)) ∨ ∃ ln J, ln < 60 ∧ I (A 118) n = nI ln ∧ ¬ I (A (4 + 7 * n)) 7 ≤ imax (nx A I n) least ∧ bar2 A I n (I (A (4 + 7 * n)) 7) (imax (nx A I n) least) = 0 ∧ F_Node_put R (A (4 + 7 * n)) kd ow ou least I = some (imax (nx A I n) least, J) ∧ PuC A I J n ln (I (A (4 + 7 * n)) 6) (imax (nx A I n) least) kd ow ou := by
  have RS := hs.all
  have e1 := C_nextStamp2 hs hn c s5 hl sl vn nb ns eb
  have e2 := C_refusalOf2 hs hn hl vn (imax (nx A I n) least)
  obtain ⟨ln, kn, v1, v2, v3, v4⟩ := vn
  unfold F_Node_put
  rw [e1, ob_s, e2, ob_s]
  unfold bar2
  by_cases h : I (A 118) n = 60
  · rw [cif_t h, if_neg (by decide)]
    exact Or.inl ⟨by decide, rfl⟩
  · rw [cif_f h]
    by_cases h2 : I (A (4 + 7 * n)) 7 ≤ imax (nx A I n) least
    · rw [cif_t h2, if_neg (by decide)]
      exact Or.inl ⟨by decide, rfl⟩
    · rw [cif_f h2, if_pos (by decide)]
      have hlt : ln < 60 := by
        refine Nat.lt_of_le_of_ne v4 (fun e => h ?_)
        rw [v1, e]; rfl
      simp only [RS, hn]
      obtain ⟨J, e3, h3⟩ := C_append (I := I) hs hn hlt (by rw [hl]; exact v1) (I (A (4 + 7 * n)) 6) (imax (nx A I n) least) kd ow ou
      rw [e3, ob_s]
      exact Or.inr ⟨ln, J, hlt, v1, h2, trivial, rfl, h3⟩
/-- how long a promise of m made now holds -/
def pm (A : Nat → Nat) (I : St) (m : Nat) : Int32 := imax (I (A 114) m) (Lat A I m + 40)
theorem pm_c (nb : NB A I) (ns : NS A I m) (sn : SN A I m) : imax (I (A (4 + 7 * m)) 9) (Lat A I m + 40) = pm A I m := by
  obtain ⟨s0, s3, s4, s5, s6, s7, s8, s9, l5, l6⟩ := sn
  have hl := Lat_t nb ns
  obtain ⟨b1, b2, b3, b4⟩ := nb
  obtain ⟨b5, b6⟩ := ns
  have h40 : (Lat A I m + 40).toInt = (Lat A I m).toInt + 40 := ia (by rw [show (40 : Int32).toInt = 40 from by decide]; omega) (by rw [show (40 : Int32).toInt = 40 from by decide]; omega)
  unfold pm
  rcases s9 with e | ⟨e1, e2, e3⟩
  · rw [e]
  · rw [e2, e3, ieq, imax_t, imax_t, h40, t0, tm1]
    unfold mxI
    rw [if_pos (by omega), if_pos (by omega)]
theorem C_promiseTo (hs : Sx R A) (hm : m < 6) (c : SC A I) (s5 : I (A (4 + 7 * m)) 5 = I (A 112) m) {a1 : Nat} (h0 : I a1 0 = nI n) : F_Node_promiseTo R (A (4 + 7 * m)) a1 I = some (up2 (up2 I (A (4 + 7 * m)) 8 (nI n)) (A (4 + 7 * m)) 9 (imax (I (A (4 + 7 * m)) 9) (Lat A I m + 40))) := by
  unfold F_Node_promiseTo
  simp only [ap_s, h0]
  have r : ∀ q, q < 131 → q ≠ 4 + 7 * m → up2 I (A (4 + 7 * m)) 8 (nI n) (A q) = I (A q) := fun q h1 h2 => V_row hs I 8 _ (by omega) h1 h2
  have e9 : up2 I (A (4 + 7 * m)) 8 (nI n) (A (4 + 7 * m)) 9 = I (A (4 + 7 * m)) 9 := by rw [V_same, upd_n _ _ (by omega)]
  have hL : Lat A (up2 I (A (4 + 7 * m)) 8 (nI n)) m = Lat A I m := by
    unfold Lat
    rw [r 110 (by omega) (by omega), r 112 (by omega) (by omega)]
  rw [C_latest2 (I := up2 I (A (4 + 7 * m)) 8 (nI n)) hs hm (c.cg (P := fun p => p = 4 + 7 * m) (fun p hp hP => r p hp hP) (by omega) (by omega) (by omega)) (by rw [V_same, upd_n _ _ (by omega), r 112 (by omega) (by omega)]; exact s5), ob_s, e9, hL]
theorem M_promise (hs : Sx R A) (hm : m < 6) : F_Model_promise R (A 110) (nI m) I = some (up2 I (A 114) m (pm A I m)) := by
  have RS := hs.all
  unfold F_Model_promise B_Model_promise_34 pm imax
  rw [M_latest hs hm, ob_s]
  simp only [chk_nI hm (show 6 < 2 ^ 31 by omega), nI_clamp (show m < 2 ^ 31 by omega), RS, ap_s]
  by_cases h : Lat A I m + 40 ≤ I (A 114) m
  · rw [if_pos h, if_neg (fun e => by rw [ilt] at e; rw [ile] at h; omega)]
  · rw [if_neg h, if_pos (by rw [ilt]; rw [ile] at h; omega)]
end
