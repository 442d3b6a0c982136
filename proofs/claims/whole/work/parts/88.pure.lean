section
variable {R : Nat → Nat → Nat} {A : Nat → Nat} {I : St} {n : Nat}
/-- what a beat does -/
def BtE (A : Nat → Nat) (I K : St) (n : Nat) : Prop := (∀ p, p < 110 → (∀ m, n / 3 = m / 3 → p ≠ 4 + 7 * m) → ¬ (5 + 7 * n ≤ p ∧ p < 11 + 7 * n) → K (A p) = I (A p)) ∧ (∀ m, n / 3 = m / 3 → m ≠ n → K (A (4 + 7 * m)) = cif (Rn A I n m) (rB A I n m) (I (A (4 + 7 * m)))) ∧ K (A (4 + 7 * n)) = upd (rB A I n n) 7 (leB A I n) ∧
  (∀ p, 110 ≤ p → p < 131 → p ≠ 114 → p ≠ 115 → p ≠ 117 → p ≠ 118 → (p < 120 ∨ 125 ≤ p) → K (A p) = I (A p)) ∧ (∀ j, K (A 114) j = cif (3 * (n / 3) ≤ j ∧ j < 3 * (n / 3) + 3 ∧ Rn A I n j) (pm A I j) (I (A 114) j)) ∧ (∀ j, K (A 115) j = cif (3 * (n / 3) ≤ j ∧ j < 3 * (n / 3) + 3 ∧ Rn A I n j) (nI n) (I (A 115) j)) ∧ K (A 117) = upd (I (A 117)) n (leB A I n) ∧
  (PE0 A I K n ∨ ∃ ln, ¬ leB A I n ≤ Lat A I n ∧ ¬ leB A I n ≤ nx A I n ∧ PE1 A I K n ln (I (A 113) n) (nx A I n) 0 (-1) (-1))
theorem e_beat (hs : Sx R A) (sm : Sim A I) (nu : Num A I) (x : Int32) : ∃ v J K, F_Store_beat R (A 0) x I = some (v, J) ∧ F_Model_beat R (A 110) x J = some (v, K) ∧ ((J = I ∧ K = I) ∨ ∃ n, n < 6 ∧ x = nI n ∧ I (A 111) n = 0 ∧ ¬ I (A 116) n = 0 ∧ BtE A I K n) := by
  have RS := hs.all
  have sa := sm.1
  rcases in_node R I x with ⟨h1, h2⟩ | ⟨n, hn, rfl, h1, h2⟩
  · refine ⟨-1, I, I, ?_, ?_, Or.inl ⟨rfl, rfl⟩⟩
    · unfold F_Store_beat B_Store_beat_31
      rw [h1, ob_s, if_pos rfl]
    · unfold F_Model_beat B_Model_beat_27
      rw [h2, ob_s, if_pos rfl]
  obtain ⟨sn, sl, vn⟩ := sa.2 n hn
  obtain ⟨ns, eb, eo⟩ := nu.2.1 n hn
  have nb := nu.1
  have s3 := sn.2.1
  have s4 := sn.2.2.1
  have s5 := sn.2.2.2.1
  have s6 := sn.2.2.2.2.1
  have l5 := sn.2.2.2.2.2.2.2.2.1
  by_cases hu : I (A 111) n = 0
  · by_cases hld : I (A 116) n = 0
    · refine ⟨-1, I, I, ?_, ?_, Or.inl ⟨rfl, rfl⟩⟩
      · unfold F_Store_beat B_Store_beat_31
        rw [h1, ob_s, if_neg (by decide)]
        simp only [chk_nI hn (show 6 < 2 ^ 31 by omega), nI_clamp (show n < 2 ^ 31 by omega), RS, hn]
        rw [if_neg (fun e => (s3.mp e) hu), if_pos (by rw [s4]; exact hld)]
      · unfold F_Model_beat B_Model_beat_27
        rw [h2, ob_s, if_neg (by decide)]
        simp only [chk_nI hn (show 6 < 2 ^ 31 by omega), nI_clamp (show n < 2 ^ 31 by omega), RS]
        rw [if_pos hu, if_pos hld]
    · obtain ⟨J1, e1, b1, b2, b3⟩ := C_beat1 hs sa nu hn hu hld
      have bt : Bt A I J1 (fun p => ∃ m, n / 3 = m / 3 ∧ p = 4 + 7 * m) := fun p hp hP => b1 p hp (fun m q1 q2 => hP ⟨m, q1, q2⟩)
      have nP : ∀ p, p < 131 → (p < 4 ∨ 39 < p ∨ (5 + 7 * n ≤ p ∧ p < 11 + 7 * n)) → ¬ ∃ m, n / 3 = m / 3 ∧ p = 4 + 7 * m := fun p q1 q2 ⟨m, q3, q4⟩ => by omega
      have mr : MR A I J1 := fun p q1 q2 => bt p q2 (nP p q2 (by omega))
      have scJ : SC A J1 := sa.1.cg bt (nP 0 (by omega) (by omega)) (nP 3 (by omega) (by omega)) (nP 110 (by omega) (by omega))
      have slJ : SL A J1 n := sl.cg bt hn (fun d hd => nP _ (by omega) (by omega)) (fun p q1 q2 => nP _ (by omega) (by omega))
      have vnJ : VN A J1 n := vn.cg bt (nP _ (by omega) (by omega)) (nP _ (by omega) (by omega))
      have nbJ : NB A J1 := nb.cg bt (nP _ (by omega) (by omega))
      have nsJ : NS A J1 n := ns.cg bt (nP _ (by omega) (by omega)) (nP _ (by omega) (by omega))
      have ebJ : EB A J1 n := eb.cg bt (nP _ (by omega) (by omega)) (fun p q1 q2 => nP _ (by omega) (by omega))
      have hL : Lat A J1 n = Lat A I n := Lat.cg bt (nP _ (by omega) (by omega)) (nP _ (by omega) (by omega))
      have hN : nx A J1 n = nx A I n := nx.cg (mr _ (by omega) (by omega)) (mr _ (by omega) (by omega)) (mr _ (by omega) (by omega)) (mr _ (by omega) (by omega)) (mr _ (by omega) (by omega))
      have r4 : J1 (A (4 + 7 * n)) 4 = I (A 116) n := by rw [b3]; unfold rB; rw [upd_n _ _ (by omega), upd_n _ _ (by omega), upd_n _ _ (by omega)]; exact s4
      have r5 : J1 (A (4 + 7 * n)) 5 = J1 (A 112) n := by rw [b3]; unfold rB; rw [upd_n _ _ (by omega), upd_n _ _ (by omega), upd_n _ _ (by omega), mr 112 (by omega) (by omega)]; exact s5
      have r6 : J1 (A (4 + 7 * n)) 6 = I (A 113) n := by rw [b3]; unfold rB; rw [upd_n _ _ (by omega), upd_n _ _ (by omega), upd_n _ _ (by omega)]; exact s6
      have r7 : J1 (A (4 + 7 * n)) 7 = leB A I n := by rw [b3, upd_s]
      have hl : J1 (A (5 + 7 * n)) 5 = J1 (A 118) n := by rw [bt (5 + 7 * n) (by omega) (nP _ (by omega) (by omega)), mr 118 (by omega) (by omega)]; exact l5
      have hB : bar2 A J1 n (leB A I n) (nx A I n) = bar2 A I n (leB A I n) (nx A I n) := by unfold bar2; rw [mr 118 (by omega) (by omega)]
      have ea := C_isActive2 hs hn scJ r5
      rw [r4, r7, hL] at ea
      -- nothing written
      have stay : ∀ v, F_Store_beat R (A 0) (nI n) I = some (v, J1) → (∀ K1, cif (leB A I n ≤ Lat A I n) (some (-7, K1)) (cif (bar2 A I n (leB A I n) (nx A I n) < 0) (some (bar2 A I n (leB A I n) (nx A I n), K1)) (ob (F_Model_put R (A 110) (nI n) 0 (-1) (-1) (nx A I n) K1) (fun K => some (nx A I n, K)))) = some (v, K1)) → ∃ v J K, F_Store_beat R (A 0) (nI n) I = some (v, J) ∧ F_Model_beat R (A 110) (nI n) J = some (v, K) ∧ ((J = I ∧ K = I) ∨ ∃ n', n' < 6 ∧ nI n = nI n' ∧ I (A 111) n' = 0 ∧ ¬ I (A 116) n' = 0 ∧ BtE A I K n') := by
        intro v hv hk
        obtain ⟨K1, ⟨k0, k1, k2, k3, k4⟩, ek⟩ := M_beat2 hs sa nu hn hu hld mr
        rw [hk K1] at ek
        refine ⟨v, J1, K1, hv, ek, Or.inr ⟨n, hn, rfl, hu, hld, fun p q1 q2 q3 => ?_, fun m q1 q2 => ?_, ?_, fun p q1 q2 q3 q4 q5 q6 q7 => k1 p q1 q2 q3 q4 q5, k2, k3, k4, Or.inl ⟨fun p q1 q2 => ?_, k1 118 (by omega) (by omega) (by omega) (by omega) (by omega), fun p q1 q2 => k1 p (by omega) (by omega) (by omega) (by omega) (by omega)⟩⟩⟩
        · rw [k0 p q1, b1 p (by omega) q2]
        · rw [k0 _ (by omega), b2 m q1 q2]
        · rw [k0 _ (by omega), b3]
        · rw [k0 _ (by omega), bt _ (by omega) (nP _ (by omega) (by omega))]
      by_cases a1 : leB A I n ≤ Lat A I n
      · refine stay (-7) ?_ (fun K1 => by rw [cif_t a1])
        rw [e1]
        unfold B_Store_beat_67
        rw [ea, ob_s, bI_f (fun h => h.2 a1), if_pos rfl]
      · have ep := C_put2 hs hn scJ r5 hl slJ vnJ nbJ nsJ ebJ 0 (-1) (-1) 0
        rw [imax_0 nbJ nsJ ebJ, r7, hN, hB, r6] at ep
        rcases ep with ⟨p1, p2⟩ | ⟨ln, J, p1, p2, p3, p4, p5, p6⟩
        · refine stay _ ?_ (fun K1 => by rw [cif_f a1, cif_t p1])
          rw [e1]
          unfold B_Store_beat_67
          rw [ea, ob_s, bI_t ⟨hld, a1⟩, if_neg (by decide), p2, ob2_s]
        · have mrJ : MR A I J := fun p q1 q2 => by rw [p6.1 p q2 (by omega), mr p q1 q2]
          obtain ⟨K1, ⟨k0, k1, k2, k3, k4⟩, ek⟩ := M_beat2 hs sa nu hn hu hld mrJ
          rw [mr 118 (by omega) (by omega)] at p2
          obtain ⟨K, em, pm1⟩ := M_put (I := K1) hs hn p1 (by rw [k1 118 (by omega) (by omega) (by omega) (by omega) (by omega)]; exact p2) 0 (-1) (-1) (nx A I n)
          rw [k1 113 (by omega) (by omega) (by omega) (by omega) (by omega)] at pm1
          rw [cif_f a1, cif_f (fun e => by rw [p4] at e; exact absurd e (by decide)), em, ob_s] at ek
          refine ⟨nx A I n, J, K, ?_, ek, Or.inr ⟨n, hn, rfl, hu, hld, fun p q1 q2 q3 => ?_, fun m q1 q2 => ?_, ?_, fun p q1 q2 q3 q4 q5 q6 q7 => ?_, fun j => ?_, fun j => ?_, ?_, Or.inr ⟨ln, a1, p3, PE1.of hn p1 p2 (fun p q1 q2 => ?_) p6 (fun p q1 q2 => ?_) (fun p q1 => ?_) pm1⟩⟩⟩
          · rw [e1]
            unfold B_Store_beat_67
            rw [ea, ob_s, bI_t ⟨hld, a1⟩, if_neg (by decide), p5, ob2_s]
          · rw [pm1.1 p (by omega) (by omega), k0 p q1, p6.1 p (by omega) q3, b1 p (by omega) q2]
          · rw [pm1.1 _ (by omega) (by omega), k0 _ (by omega), p6.1 _ (by omega) (by omega), b2 m q1 q2]
          · rw [pm1.1 _ (by omega) (by omega), k0 _ (by omega), p6.1 _ (by omega) (by omega), b3]
          · rw [pm1.1 _ (by omega) (by omega), k1 p q1 q2 q3 q4 q5]
          · rw [pm1.1 _ (by omega) (by omega), k2]
          · rw [pm1.1 _ (by omega) (by omega), k3]
          · rw [pm1.1 _ (by omega) (by omega), k4]
          · rw [bt _ (by omega) (nP _ (by omega) (by omega))]
          · rw [k0 p (by omega)]
          · rw [k1 p (by omega) (by omega) (by omega) (by omega) (by omega)]
  · refine ⟨-1, I, I, ?_, ?_, Or.inl ⟨rfl, rfl⟩⟩
    · unfold F_Store_beat B_Store_beat_31
      rw [h1, ob_s, if_neg (by decide)]
      simp only [chk_nI hn (show 6 < 2 ^ 31 by omega), nI_clamp (show n < 2 ^ 31 by omega), RS, hn]
      rw [if_pos (s3.mpr hu)]
    · unfold F_Model_beat B_Model_beat_27
      rw [h2, ob_s, if_neg (by decide)]
      simp only [chk_nI hn (show 6 < 2 ^ 31 by omega), nI_clamp (show n < 2 ^ 31 by omega), RS]
      rw [if_neg hu]
end
