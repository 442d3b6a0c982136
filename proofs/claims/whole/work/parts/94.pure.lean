section
variable {R : Nat → Nat → Nat} {A : Nat → Nat} {I : St} {n : Nat}
theorem e_elect (hs : Sx R A) (sm : Sim A I) (nu : Num A I) (ne : ∀ n, n < 6 → ∃ e, e ≤ 100000 ∧ I (A 113) n = nI e) (y : Int32) : ∃ v J K, F_Store_elect R (A 0) y I = some (v, J) ∧ F_Model_elect R (A 110) y J = some (v, K) ∧ ((J = I ∧ K = I) ∨ ∃ n e, n < 6 ∧ y = nI n ∧ I (A 111) n = 0 ∧ e ≤ 100000 ∧ I (A 113) n = nI e ∧ ElE A I K n (nI (nE e n))) := by
  have RS := hs.all
  have sa := sm.1
  rcases in_node R I y with ⟨h1, h2⟩ | ⟨n, hn, rfl, h1, h2⟩
  · refine ⟨-1, I, I, ?_, ?_, Or.inl ⟨rfl, rfl⟩⟩
    · unfold F_Store_elect B_Store_elect_19
      rw [h1, ob_s, if_pos rfl]
    · unfold F_Model_elect B_Model_elect_18
      rw [h2, ob_s, if_pos rfl]
  obtain ⟨sn, sl, vn⟩ := sa.2 n hn
  obtain ⟨ns, eb, eo⟩ := nu.2.1 n hn
  obtain ⟨e, he, hep⟩ := ne n hn
  have nb := nu.1
  have s0 := sn.1
  have s3 := sn.2.1
  have s5 := sn.2.2.2.1
  have s6 := sn.2.2.2.2.1
  have l5 := sn.2.2.2.2.2.2.2.2.1
  have hlt := nE_b (e := e) (n := n)
  by_cases hu : I (A 111) n = 0
  · obtain ⟨x, hx⟩ : ∃ x, x = nI (nE e n) := ⟨_, rfl⟩
    obtain ⟨J0, e1, p0⟩ := C_gather (x := x) hs sa nu hn
    have hcnt : qn (Gt A I n x) (3 * (n / 3)) + qn (Gt A I n x) (3 * (n / 3) + 1) + qn (Gt A I n x) (3 * (n / 3) + 2) = q3 (Gt A I n x) n := rfl
    rw [hcnt] at e1
    have hle := q3_le (Gt A I n x) n
    have bt0 : Bt A I J0 (fun p => ∃ m, n / 3 = m / 3 ∧ p = 4 + 7 * m) := fun p hp hP => p0.1 p hp (fun ⟨m, q1, q2, q3⟩ => hP ⟨m, by omega, q3⟩)
    have row0 : ∀ m, n / 3 = m / 3 → J0 (A (4 + 7 * m)) = cif (Gt A I n x m) (rE A I n x m) (I (A (4 + 7 * m))) := fun m q => p0.2 m (by omega) (by omega)
    have nP : ∀ p, p < 131 → (p < 4 ∨ 39 < p ∨ (5 + 7 * n ≤ p ∧ p < 11 + 7 * n)) → ¬ ∃ m, n / 3 = m / 3 ∧ p = 4 + 7 * m := fun p q1 q2 ⟨m, q3, q4⟩ => by omega
    have goC : ∀ w, (if (J0 (A (4 + 7 * n)) 6) = x then (if (2 : Int32) ≤ nI (q3 (Gt A I n x) n) then (ob (F_Node_earliest R (A (4 + 7 * n)) (up2 J0 (A (4 + 7 * n)) 4 1)) (fun v64 => (ob2 (F_Node_put R (A (4 + 7 * n)) (0 : Int32) (-1 : Int32) (-1 : Int32) (0 : Int32) (up2 (up2 J0 (A (4 + 7 * n)) 4 1) (A (4 + 7 * n)) 7 (v64 + (40 : Int32)))) (fun v78 I78 => some (x, I78))))) else some (0, J0)) else some (0, J0)) = w → F_Store_elect R (A 0) (nI n) I = w := by
      intro w hw
      unfold F_Store_elect B_Store_elect_55
      rw [h1, ob_s, if_neg (by decide)]
      simp only [chk_nI hn (show 6 < 2 ^ 31 by omega), nI_clamp (show n < 2 ^ 31 by omega), RS, hn, ap_s]
      rw [if_neg (fun q => (s3.mp q) hu), C_nextOwn s0 (by rw [s6]; exact hep) hn he, ob_s, ← hx, e1, ob2_s]
      exact hw
    by_cases hel : Ele A I n x
    · have hQ := hel.1
      have row : J0 (A (4 + 7 * n)) = rE A I n x n := by rw [row0 n rfl, cif_t hQ]
      have hc2 : 2 ≤ q3 (Gt A I n x) n := by
        rw [q3_o hQ]
        have : ¬ q3 (fun m => Gt A I n x m ∧ m ≠ n) n = 0 := fun q => q3_z.mp q (hel.2.elim fun m hm => ⟨m, hm.1, hm.2.2, hm.2.1⟩)
        omega
      have scJ0 : SC A J0 := sa.1.cg bt0 (nP 0 (by omega) (by omega)) (nP 3 (by omega) (by omega)) (nP 110 (by omega) (by omega))
      -- leads and lease
      obtain ⟨J1, hJ1⟩ : ∃ J1, J1 = up2 (up2 J0 (A (4 + 7 * n)) 4 1) (A (4 + 7 * n)) 7 (Ear A I n + 40) := ⟨_, rfl⟩
      have bt4 : Bt A I (up2 J0 (A (4 + 7 * n)) 4 1) (fun p => ∃ m, n / 3 = m / 3 ∧ p = 4 + 7 * m) := fun p hp hP => by
        rw [V_row hs _ _ _ (by omega) hp (fun q => hP ⟨n, rfl, q⟩)]; exact bt0 p hp hP
      have bt : Bt A I J1 (fun p => ∃ m, n / 3 = m / 3 ∧ p = 4 + 7 * m) := fun p hp hP => by
        rw [hJ1, V_row hs _ _ _ (by omega) hp (fun q => hP ⟨n, rfl, q⟩)]; exact bt4 p hp hP
      have rowJ : J1 (A (4 + 7 * n)) = upd (upd (rE A I n x n) 4 1) 7 (Ear A I n + 40) := by rw [hJ1, V_same, V_same, row]
      have rowM : ∀ m, n / 3 = m / 3 → m ≠ n → J1 (A (4 + 7 * m)) = cif (Gt A I n x m) (rE A I n x m) (I (A (4 + 7 * m))) := fun m q1 q2 => by
        rw [hJ1, V_row hs _ _ _ (by omega) (by omega) (by omega), V_row hs _ _ _ (by omega) (by omega) (by omega)]; exact row0 m q1
      have mr : MR A I J1 := fun p q1 q2 => bt p q2 (nP p q2 (by omega))
      have e4 : F_Node_earliest R (A (4 + 7 * n)) (up2 J0 (A (4 + 7 * n)) 4 1) = some (Ear A I n) := by
        rw [C_earliest2 hs hn (sa.1.cg bt4 (nP 0 (by omega) (by omega)) (nP 3 (by omega) (by omega)) (nP 110 (by omega) (by omega))) (by
          rw [V_same, upd_n _ _ (by omega), row, rE_o (by omega) (by omega) (by omega) (by omega), bt4 112 (by omega) (nP _ (by omega) (by omega))]; exact s5), Ear.cg bt4 (nP _ (by omega) (by omega)) (nP _ (by omega) (by omega))]
      have goC2 : ∀ w, (ob2 (F_Node_put R (A (4 + 7 * n)) (0 : Int32) (-1 : Int32) (-1 : Int32) (0 : Int32) J1) (fun v78 I78 => some (x, I78))) = w → F_Store_elect R (A 0) (nI n) I = w := by
        intro w hw
        refine goC w ?_
        rw [row, if_pos (show rE A I n x n 6 = x from by unfold rE; rw [upd_n _ _ (by omega), upd_n _ _ (by omega), upd_n _ _ (by omega), upd_s]), if_pos (show (2 : Int32) ≤ nI (q3 (Gt A I n x) n) from nI_le (a := 2) hc2 (by omega)), e4, ob_s, ← hJ1]
        exact hw
      have scJ : SC A J1 := sa.1.cg bt (nP 0 (by omega) (by omega)) (nP 3 (by omega) (by omega)) (nP 110 (by omega) (by omega))
      have slJ : SL A J1 n := sl.cg bt hn (fun d hd => nP _ (by omega) (by omega)) (fun p q1 q2 => nP _ (by omega) (by omega))
      have vnJ : VN A J1 n := vn.cg bt (nP _ (by omega) (by omega)) (nP _ (by omega) (by omega))
      have nbJ : NB A J1 := nb.cg bt (nP _ (by omega) (by omega))
      have nsJ : NS A J1 n := ns.cg bt (nP _ (by omega) (by omega)) (nP _ (by omega) (by omega))
      have ebJ : EB A J1 n := eb.cg bt (nP _ (by omega) (by omega)) (fun p q1 q2 => nP _ (by omega) (by omega))
      have hN : nx A J1 n = nx A I n := nx.cg (mr _ (by omega) (by omega)) (mr _ (by omega) (by omega)) (mr _ (by omega) (by omega)) (mr _ (by omega) (by omega)) (mr _ (by omega) (by omega))
      have r5 : J1 (A (4 + 7 * n)) 5 = J1 (A 112) n := by rw [rowJ, upd_n _ _ (by omega), upd_n _ _ (by omega), rE_o (by omega) (by omega) (by omega) (by omega), mr 112 (by omega) (by omega)]; exact s5
      have r6 : J1 (A (4 + 7 * n)) 6 = x := by rw [rowJ, upd_n _ _ (by omega), upd_n _ _ (by omega)]; unfold rE; rw [upd_n _ _ (by omega), upd_n _ _ (by omega), upd_n _ _ (by omega), upd_s]
      have r7 : J1 (A (4 + 7 * n)) 7 = Ear A I n + 40 := by rw [rowJ, upd_s]
      have hl : J1 (A (5 + 7 * n)) 5 = J1 (A 118) n := by rw [bt (5 + 7 * n) (by omega) (nP _ (by omega) (by omega)), mr 118 (by omega) (by omega)]; exact l5
      have hB : bar2 A J1 n (Ear A I n + 40) (nx A I n) = bar2 A I n (Ear A I n + 40) (nx A I n) := by unfold bar2; rw [mr 118 (by omega) (by omega)]
      have ep := C_put2 hs hn scJ r5 hl slJ vnJ nbJ nsJ ebJ 0 (-1) (-1) 0
      rw [imax_0 nbJ nsJ ebJ, r7, hN, hB, r6] at ep
      rcases ep with ⟨p1, p2⟩ | ⟨ln, J, p1, p2, p3, p4, p5, p6⟩
      · obtain ⟨K1, ⟨k0, k1, k3, k4, k5, k6⟩, ek⟩ := M_elect2 hs sa nu hn hu he hep hx mr
        rw [cif_t hel, cif_t p1] at ek
        obtain ⟨-, k6, k7⟩ := k6.elim (fun h => absurd hel h.1) id
        refine ⟨x, J1, K1, goC2 _ (by rw [p2, ob2_s]), ek, Or.inr ⟨n, e, hn, rfl, hu, he, hep, ?_⟩⟩
        rw [← hx]
        refine ⟨fun p q1 q2 q3 => ?_, fun m q1 q2 => ?_, fun p q1 q2 q3 q4 => k1 p q1 q2 (by omega), k3, k4, k5, Or.inr ⟨hel, ?_, k6, k7, Or.inl ⟨fun p q1 q2 => ?_, k1 118 (by omega) (by omega) (by omega), fun p q1 q2 => k1 p (by omega) (by omega) (by omega)⟩⟩⟩
        · rw [k0 p q1, bt p (by omega) (fun ⟨m, w1, w2⟩ => q2 m w1 w2)]
        · rw [k0 _ (by omega), rowM m q1 q2]
        · rw [k0 _ (by omega), rowJ]
        · rw [k0 _ (by omega), bt _ (by omega) (nP _ (by omega) (by omega))]
      · have mrJ : MR A I J := fun p q1 q2 => by rw [p6.1 p q2 (by omega), mr p q1 q2]
        obtain ⟨K1, ⟨k0, k1, k3, k4, k5, k6⟩, ek⟩ := M_elect2 hs sa nu hn hu he hep hx mrJ
        obtain ⟨-, k6, k7⟩ := k6.elim (fun h => absurd hel h.1) id
        rw [mr 118 (by omega) (by omega)] at p2
        obtain ⟨K, em, pm1⟩ := M_put (I := K1) hs hn p1 (by rw [k1 118 (by omega) (by omega) (by omega)]; exact p2) 0 (-1) (-1) (nx A I n)
        rw [k3, cif_t ⟨by omega, by omega, hQ⟩] at pm1
        rw [cif_t hel, cif_f (fun q => by rw [p4] at q; exact absurd q (by decide)), em, ob_s] at ek
        refine ⟨x, J, K, goC2 _ (by rw [p5, ob2_s]), ek, Or.inr ⟨n, e, hn, rfl, hu, he, hep, ?_⟩⟩
        rw [← hx]
        refine ⟨fun p q1 q2 q3 => ?_, fun m q1 q2 => ?_, fun p q1 q2 q3 q4 => ?_, fun j => ?_, fun j => ?_, fun j => ?_, Or.inr ⟨hel, ?_, fun j => ?_, ?_, Or.inr ⟨ln, p3, PE1.of hn p1 p2 (fun p q1 q2 => ?_) p6 (fun p q1 q2 => ?_) (fun p q1 => ?_) pm1⟩⟩⟩
        · rw [pm1.1 p (by omega) (by omega), k0 p q1, p6.1 p (by omega) q3, bt p (by omega) (fun ⟨m, w1, w2⟩ => q2 m w1 w2)]
        · rw [pm1.1 _ (by omega) (by omega), k0 _ (by omega), p6.1 _ (by omega) (by omega), rowM m q1 q2]
        · rw [pm1.1 _ (by omega) (by omega), k1 p q1 q2 (by omega)]
        · rw [pm1.1 _ (by omega) (by omega), k3]
        · rw [pm1.1 _ (by omega) (by omega), k4]
        · rw [pm1.1 _ (by omega) (by omega), k5]
        · rw [pm1.1 _ (by omega) (by omega), k0 _ (by omega), p6.1 _ (by omega) (by omega), rowJ]
        · rw [pm1.1 _ (by omega) (by omega), k6]
        · rw [pm1.1 _ (by omega) (by omega), k7]
        · rw [bt _ (by omega) (nP _ (by omega) (by omega))]
        · rw [k0 p (by omega)]
        · rw [k1 p (by omega) (by omega) (by omega)]
    · have mr0 : MR A I J0 := fun p q1 q2 => bt0 p q2 (nP p q2 (by omega))
      obtain ⟨K1, ⟨k0, k1, k3, k4, k5, k6⟩, ek⟩ := M_elect2 hs sa nu hn hu he hep hx mr0
      obtain ⟨-, k6, k7⟩ := k6.elim id (fun h => absurd h.1 hel)
      rw [cif_f hel] at ek
      refine ⟨0, J0, K1, goC _ ?_, ek, Or.inr ⟨n, e, hn, rfl, hu, he, hep, ?_⟩⟩
      · by_cases hQ : Gt A I n x n
        · have h2' : ¬ 2 ≤ q3 (Gt A I n x) n := by
            rw [q3_o hQ]
            have : q3 (fun m => Gt A I n x m ∧ m ≠ n) n = 0 := q3_z.mpr (fun ⟨m, w1, w2, w3⟩ => hel ⟨hQ, m, w1, w3, w2⟩)
            omega
          rw [if_neg (show ¬ (2 : Int32) ≤ nI (q3 (Gt A I n x) n) from nI_ge (b := 2) (by omega) (by omega))]
          by_cases q : J0 (A (4 + 7 * n)) 6 = x
          · rw [if_pos q]
          · rw [if_neg q]
        · have : ¬ J0 (A (4 + 7 * n)) 6 = x := by
            rw [row0 n rfl, cif_f hQ, s6, hep, hx]
            intro q
            have := nI_inj (by omega) (by omega) q
            omega
          rw [if_neg this]
      · rw [← hx]
        refine ⟨fun p q1 q2 q3 => ?_, fun m q1 q2 => ?_, fun p q1 q2 q3 q4 => k1 p q1 q2 (by omega), k3, k4, k5, Or.inl ⟨hel, ?_, k6, k7, fun p q1 q2 => ?_, k1 118 (by omega) (by omega) (by omega), fun p q1 q2 => k1 p (by omega) (by omega) (by omega)⟩⟩
        · rw [k0 p q1, bt0 p (by omega) (fun ⟨m, w1, w2⟩ => q2 m w1 w2)]
        · rw [k0 _ (by omega), row0 m q1]
        · rw [k0 _ (by omega), row0 n rfl]
        · rw [k0 _ (by omega), bt0 _ (by omega) (nP _ (by omega) (by omega))]
  · refine ⟨-1, I, I, ?_, ?_, Or.inl ⟨rfl, rfl⟩⟩
    · unfold F_Store_elect B_Store_elect_19
      rw [h1, ob_s, if_neg (by decide)]
      simp only [chk_nI hn (show 6 < 2 ^ 31 by omega), nI_clamp (show n < 2 ^ 31 by omega), RS, hn]
      rw [if_pos (s3.mpr hu)]
    · unfold F_Model_elect B_Model_elect_18
      rw [h2, ob_s, if_neg (by decide)]
      simp only [chk_nI hn (show 6 < 2 ^ 31 by omega), nI_clamp (show n < 2 ^ 31 by omega), RS]
      rw [if_neg hu]
end
