section
variable {R : Nat → Nat → Nat} {A : Nat → Nat} {I J : St} {n m g k : Nat}
/-- the reference's rows of J are those of I -/
def MR (A : Nat → Nat) (I J : St) : Prop := ∀ p, 110 ≤ p → p < 131 → J (A p) = I (A p)
theorem MR.rn (h : MR A I J) : Rn A J n = Rn A I n := by
  funext m
  unfold Rn
  rw [h 111 (by omega) (by omega), h 113 (by omega) (by omega)]
theorem MR.p9 (h : MR A I J) : pm A J m = pm A I m := by
  unfold pm Lat
  rw [h 110 (by omega) (by omega), h 112 (by omega) (by omega), h 114 (by omega) (by omega)]
theorem MR.le (h : MR A I J) : leB A J n = leB A I n := by
  unfold leB rnN Ear
  rw [h.rn, h 110 (by omega) (by omega), h 112 (by omega) (by omega), h 117 (by omega) (by omega)]
theorem M_beat1 (hs : Sx R A) (hn : n < 6) (hu : I (A 111) n = 0) (hld : ¬ I (A 116) n = 0) : ∃ K0, F_Model_beat R (A 110) (nI n) I = B_Model_beat_132 R (A 110) (nI n) (A 117) (nI n) (leB A I n) K0 ∧ Lq A I (n / 3) (3 * (n / 3) + 3) n (Rn A I n) K0 := by
  have RS := hs.all
  obtain ⟨J1, e1, p1⟩ := M_bt1 (J := I) hs hn rfl 99 0 (Nat.le_refl _) (by omega) Lq.init
  obtain ⟨J2, e2, p2⟩ := M_bt1 hs hn rfl 98 (0 + qn (Rn A I n) (3 * (n / 3))) (by omega) (by omega) p1
  obtain ⟨J3, e3, p3⟩ := M_bt1 hs hn rfl 97 (0 + qn (Rn A I n) (3 * (n / 3)) + qn (Rn A I n) (3 * (n / 3) + 1)) (by omega) (by omega) p2
  have hcnt : 0 + qn (Rn A I n) (3 * (n / 3)) + qn (Rn A I n) (3 * (n / 3) + 1) + qn (Rn A I n) (3 * (n / 3) + 2) = rnN A I n := by unfold rnN; omega
  have hle := rnN_le (A := A) (I := I) (n := n)
  rw [hcnt] at e3
  rw [show nI 0 = (0 : Int32) from rfl] at e1
  refine ⟨J3, ?_, p3⟩
  have jm : ∀ p, p < 131 → p ≠ 114 → p ≠ 115 → J3 (A p) = I (A p) := fun p q1 q2 q3 => p3.1 p q1 (fun e => e.elim q2 q3)
  have hE : Ear A J3 n = Ear A I n := by unfold Ear; rw [jm 110 (by omega) (by omega) (by omega), jm 112 (by omega) (by omega) (by omega)]
  unfold F_Model_beat
  rw [bel6 R I hn, ob_s, if_neg (by decide)]
  simp only [chk_nI hn (show 6 < 2 ^ 31 by omega), nI_clamp (show n < 2 ^ 31 by omega), RS]
  rw [if_pos hu, if_neg hld, nd3 (by omega), n3', e1, e2, e3, B_Model_beat_37, nd3 (by omega), n3', np3, if_pos (nI_le (by omega) (by omega)), M_earliest hs hn, ob_s]
  unfold B_Model_beat_126
  simp only [chk_nI hn (show 6 < 2 ^ 31 by omega), nI_clamp (show n < 2 ^ 31 by omega), RS]
  rw [hE, jm 117 (by omega) (by omega) (by omega)]
  by_cases h2 : 2 ≤ rnN A I n
  · rw [if_neg (show ¬ nI (rnN A I n) < (2 : Int32) from fun e => by rw [ilt, nI_toInt (by omega), show (2 : Int32).toInt = 2 from by decide] at e; omega)]
    unfold leB imax
    rw [if_pos h2]
    by_cases w : Ear A I n + 40 ≤ I (A 117) n
    · rw [if_pos w, if_neg (fun e => by rw [ilt] at e; rw [ile] at w; omega)]
    · rw [if_neg w, if_pos (by rw [ilt]; rw [ile] at w; omega)]
  · rw [if_pos (show nI (rnN A I n) < (2 : Int32) from by rw [ilt, nI_toInt (by omega), show (2 : Int32).toInt = 2 from by decide]; omega)]
    unfold leB
    rw [if_neg h2]
/-- the reference's rows after a beat, but for the entry -/
def BK (A : Nat → Nat) (I J K1 : St) (n : Nat) : Prop := (∀ p, p < 110 → K1 (A p) = J (A p)) ∧ (∀ p, 110 ≤ p → p < 131 → p ≠ 114 → p ≠ 115 → p ≠ 117 → K1 (A p) = I (A p)) ∧ (∀ j, K1 (A 114) j = cif (3 * (n / 3) ≤ j ∧ j < 3 * (n / 3) + 3 ∧ Rn A I n j) (pm A I j) (I (A 114) j)) ∧ (∀ j, K1 (A 115) j = cif (3 * (n / 3) ≤ j ∧ j < 3 * (n / 3) + 3 ∧ Rn A I n j) (nI n) (I (A 115) j)) ∧ K1 (A 117) = upd (I (A 117)) n (leB A I n)
theorem bar2_c (le x : Int32) : bar2 A I n le x < 0 ∨ bar2 A I n le x = 0 := by
  unfold bar2
  by_cases h : I (A 118) n = 60
  · rw [cif_t h]; exact Or.inl (by decide)
  · rw [cif_f h]
    by_cases h2 : le ≤ x
    · rw [cif_t h2]; exact Or.inl (by decide)
    · rw [cif_f h2]; exact Or.inr rfl
theorem M_beat2 (hs : Sx R A) (sa : SA A I) (nu : Num A I) (hn : n < 6) (hu : I (A 111) n = 0) (hld : ¬ I (A 116) n = 0) (mr : MR A I J) : ∃ K1, BK A I J K1 n ∧ F_Model_beat R (A 110) (nI n) J = cif (leB A I n ≤ Lat A I n) (some (-7, K1)) (cif (bar2 A I n (leB A I n) (nx A I n) < 0) (some (bar2 A I n (leB A I n) (nx A I n), K1)) (ob (F_Model_put R (A 110) (nI n) 0 (-1) (-1) (nx A I n) K1) (fun K => some (nx A I n, K)))) := by
  have RS := hs.all
  obtain ⟨K0, e0, q0, q1, q2⟩ := M_beat1 (I := J) hs hn (by rw [mr 111 (by omega) (by omega)]; exact hu) (by rw [mr 116 (by omega) (by omega)]; exact hld)
  rw [mr.rn] at q1 q2
  rw [mr.le] at e0
  have k0 : ∀ p, p < 131 → p ≠ 114 → p ≠ 115 → K0 (A p) = J (A p) := fun p w1 w2 w3 => q0 p w1 (fun e => e.elim w2 w3)
  have bk : BK A I J (up2 K0 (A 117) n (leB A I n)) n := by
    refine ⟨fun p hp => ?_, fun p h1 h2 h3 h4 h5 => ?_, fun j => ?_, fun j => ?_, ?_⟩
    · rw [V_row hs _ _ _ (by omega) (by omega) (by omega), k0 p (by omega) (by omega) (by omega)]
    · rw [V_row hs _ _ _ (by omega) (by omega) h5, k0 p (by omega) h3 h4, mr p h1 h2]
    · rw [V_row hs _ _ _ (by omega) (by omega) (by omega), q1, mr.p9, mr 114 (by omega) (by omega)]
    · rw [V_row hs _ _ _ (by omega) (by omega) (by omega), q2, mr 115 (by omega) (by omega)]
    · rw [V_same, k0 117 (by omega) (by omega) (by omega), mr 117 (by omega) (by omega)]
  refine ⟨_, bk, ?_⟩
  rw [e0]
  unfold B_Model_beat_132
  rw [chk_nI hn (by omega), nI_clamp (by omega), ap_s]
  generalize up2 K0 (A 117) n (leB A I n) = K1 at bk
  obtain ⟨b0, b1, b2, b3, b4⟩ := bk
  have bt : Bt A I K1 (fun p => p < 110 ∨ p = 114 ∨ p = 115 ∨ p = 117) := fun p hp hP => b1 p (by omega) hp (by omega) (by omega) (by omega)
  have vn := (sa.2 n hn).2.2.cg bt (by omega) (by omega)
  have nb := nu.1.cg bt (by omega)
  have ns := (nu.2.1 n hn).1.cg bt (by omega) (by omega)
  have eb := (nu.2.1 n hn).2.1.cg bt (by omega) (fun p w1 w2 => by omega)
  have hL : Lat A K1 n = Lat A I n := Lat.cg bt (by omega) (by omega)
  have hN : nx A K1 n = nx A I n := nx.cg (bt 110 (by omega) (by omega)) (bt 112 (by omega) (by omega)) (bt 118 (by omega) (by omega)) (bt 121 (by omega) (by omega)) (bt 124 (by omega) (by omega))
  have hB : bar A K1 n (nx A I n) = bar2 A I n (leB A I n) (nx A I n) := by
    unfold bar bar2
    rw [bt 118 (by omega) (by omega), b4, upd_s]
  rw [M_isActive hs hn, ob_s, bI_if]
  by_cases h1 : leB A I n ≤ Lat A I n
  · rw [cif_t h1, if_neg (fun h => h.2 (by rw [b4, upd_s, hL]; exact h1))]
  · rw [cif_f h1, if_pos ⟨by rw [bt 116 (by omega) (by omega)]; exact hld, by rw [b4, upd_s, hL]; exact h1⟩, M_next hs hn vn nb ns eb, ob_s, M_bars hs hn, ob_s, hN, hB]
    rcases bar2_c (A := A) (I := I) (n := n) (leB A I n) (nx A I n) with h | h
    · rw [cif_t h, if_neg (fun e => by rw [ile, t0] at e; rw [ilt, t0] at h; omega)]
    · rw [cif_f (fun e => by rw [h] at e; exact absurd e (by decide)), if_pos (by rw [h]; decide)]
end
