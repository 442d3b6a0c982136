section
variable {R : Nat → Nat → Nat} {A : Nat → Nat} {I J : St} {n t : Nat}
theorem gm_ge {j : Nat} : ∀ k, j < k → (I (A 121) (60 * n + j)).toInt ≤ gm A I n k := by
  intro k
  induction k with
  | zero => intro h; omega
  | succ k ih =>
    intro h
    unfold gm
    have h1 := mx_s (gm A I n k) (mxI (I (A 121) (60 * n + k)).toInt (I (A 124) (60 * n + k)).toInt)
    have h2 := mx_s (I (A 121) (60 * n + k)).toInt (I (A 124) (60 * n + k)).toInt
    by_cases e : j = k
    · subst e; omega
    · have := ih (by omega); omega
theorem nx_gt (nb : NB A I) (ns : NS A I n) (eb : EB A I n) {j : Nat} (hj : j < (I (A 118) n).toNatClampNeg) (x : Int32) : imax (nx A I n) (imax (I (A 121) (60 * n + j)) x) = imax (nx A I n) x := by
  have h := nx_t nb ns eb
  have g := gm_ge (A := A) (I := I) (n := n) (j := j) _ hj
  have h1 := mx_s (Lat A I n).toInt (gm A I n (I (A 118) n).toNatClampNeg + 1)
  have h2 : nxI A I n = mxI (Lat A I n).toInt (gm A I n (I (A 118) n).toNatClampNeg + 1) := rfl
  rw [ieq, imax_t, imax_t, imax_t, h]
  have a1 := mx_s (I (A 121) (60 * n + j)).toInt x.toInt
  have a2 := mx_s (nxI A I n) (mxI (I (A 121) (60 * n + j)).toInt x.toInt)
  have a3 := mx_s (nxI A I n) x.toInt
  omega
/-- what a step of a PREPARING transaction does -/
def PrE (A : Nat → Nat) (I K : St) (t : Nat) : Prop := ((∀ p, p < 131 → p ≠ 46 + 4 * t → p ≠ 125 → K (A p) = I (A p)) ∧ K (A (46 + 4 * t)) = upd (I (A (46 + 4 * t))) 3 4 ∧ K (A 125) = upd (I (A 125)) t 4 ∧ ∃ n0 n1, n0 < 6 ∧ n1 < 6 ∧ rdy A I 0 = nI n0 ∧ rdy A I 1 = nI n1 ∧ ¬ (HasE A I n0 1 (nI t) ∧ HasE A I n1 1 (nI t))) ∨
  ∃ n0 n1 p1 ln, n0 < 6 ∧ n1 < 6 ∧ rdy A I 0 = nI n0 ∧ rdy A I 1 = nI n1 ∧ HasE A I n0 1 (nI t) ∧ KnsE A I n0 1 (nI t) ∧ KnsE A I n1 1 (nI t) ∧ p1 < (I (A 118) n1).toNatClampNeg ∧ Mt A I n1 1 (nI t) p1 ∧ ¬ I (A 117) n0 ≤ imax (nx A I n0) (I (A 121) (60 * n1 + p1)) ∧
    (∀ p, p < 131 → p ≠ 46 + 4 * t → p ≠ 125 → ¬ (5 + 7 * n0 ≤ p ∧ p < 11 + 7 * n0) → p ≠ 118 → ¬ (120 ≤ p ∧ p < 125) → K (A p) = I (A p)) ∧ K (A (46 + 4 * t)) = upd (I (A (46 + 4 * t))) 3 2 ∧ K (A 125) = upd (I (A 125)) t 2 ∧ PE1 A I K n0 ln (I (A 113) n0) (imax (nx A I n0) (I (A 121) (60 * n1 + p1))) 2 (nI t) (-1)
theorem e_prepared (hs : Sx R A) (sm : Sim A I) (nu : Num A I) (ht : t < 16) (uq : ∀ n, n < 6 → Uq A I n 1 (nI t)) : ∃ v J K, F_Store_stepPreparing R (A 0) (nI t) I = some (v, J) ∧ F_Model_prepared R (A 110) (nI t) J = some (v, K) ∧ Bt A I J (fun p => p < 110) ∧ ((J = I ∧ K = I) ∨ PrE A I K t) := by
  have RS := hs.all
  have sa := sm.1
  have r0 := C_readyNode hs sa (q := 0) (by omega)
  have r1 := C_readyNode hs sa (q := 1) (by omega)
  rw [show nI 0 = (0 : Int32) from rfl] at r0
  rw [show nI 1 = (1 : Int32) from rfl] at r1
  have mn : Mn (fun p => p < 110) := ⟨by omega, fun p q1 q2 => by omega⟩
  have bI0 : Bt A I I (fun p => p < 110) := fun p hp hP => rfl
  have m0 : ∀ K, Bt A I K (fun p => p < 110) → F_Model_ready R (A 110) (0 : Int32) K = some (rdy A I 0) := fun K b => by
    have := M_ready2 (I := K) hs (q := 0) (fun n hn _ => (sa.2 n hn).2.2.cg b (by omega) (by omega)) (by omega)
    rw [rdy.cg b mn] at this
    exact this
  have m1 : ∀ K, Bt A I K (fun p => p < 110) → F_Model_ready R (A 110) (1 : Int32) K = some (rdy A I 1) := fun K b => by
    have := M_ready2 (I := K) hs (q := 1) (fun n hn _ => (sa.2 n hn).2.2.cg b (by omega) (by omega)) (by omega)
    rw [rdy.cg b mn] at this
    exact this
  rcases rdy_c A I (q := 0) (by omega) with ⟨z1, z2⟩ | ⟨n0, z1, hn0, z3, z4⟩
  · refine ⟨-3, I, I, ?_, ?_, bI0, Or.inl ⟨rfl, rfl⟩⟩
    · unfold F_Store_stepPreparing B_Store_stepPreparing_22
      rw [r0, ob_s, r1, ob_s, z1, if_pos rfl]
    · unfold F_Model_prepared B_Model_prepared_20
      rw [m0 I bI0, ob_s, m1 I bI0, ob_s, z1, if_pos (by decide)]
  rcases rdy_c A I (q := 1) (by omega) with ⟨y1, y2⟩ | ⟨n1, y1, hn1, y3, y4⟩
  · refine ⟨-3, I, I, ?_, ?_, bI0, Or.inl ⟨rfl, rfl⟩⟩
    · unfold F_Store_stepPreparing B_Store_stepPreparing_22
      rw [r0, ob_s, r1, ob_s, z3, y1, if_neg (nI_nm1 (by omega)), if_pos rfl]
    · unfold F_Model_prepared B_Model_prepared_20
      rw [m0 I bI0, ob_s, m1 I bI0, ob_s, z3, y1, if_neg (nI_pos (by omega)), if_neg (by decide)]
  obtain ⟨sn, sl, vn⟩ := sa.2 n0 hn0
  obtain ⟨sn1, sl1, vn1⟩ := sa.2 n1 hn1
  obtain ⟨ns, eb, eo⟩ := nu.2.1 n0 hn0
  have nb := nu.1
  have goC : ∀ w, (if bI (HasE A I n0 1 (nI t)) = 0 then some (4, up2 I (A (46 + 4 * t)) 3 4) else (if bI (HasE A I n1 1 (nI t)) = 0 then some (4, up2 I (A (46 + 4 * t)) 3 4) else (if bI (KnsE A I n0 1 (nI t)) = 0 then some (1, I) else (if bI (KnsE A I n1 1 (nI t)) = 0 then some (1, I) else (ob (F_Log_stampOf R (A (5 + 7 * n0)) 1 (nI t) I) (fun v105 => (ob (F_Log_stampOf R (A (5 + 7 * n1)) 1 (nI t) I) (fun v112 => (ob2 (F_Node_put R (A (4 + 7 * n0)) 2 (nI t) (-1) (imax v105 v112) I) (fun v131 I131 => (if 0 ≤ v131 then some (2, up2 I131 (A (46 + 4 * t)) 3 2) else some (v131, I131)))))))))))) = w → F_Store_stepPreparing R (A 0) (nI t) I = w := by
    intro w hw
    unfold F_Store_stepPreparing B_Store_stepPreparing_67 B_Store_stepPreparing_99
    rw [r0, ob_s, r1, ob_s, z3, y3, if_neg (nI_nm1 (by omega)), if_neg (nI_nm1 (by omega))]
    simp only [chk_nI hn0 (show 6 < 2 ^ 31 by omega), nI_clamp (show n0 < 2 ^ 31 by omega), chk_nI hn1 (show 6 < 2 ^ 31 by omega), nI_clamp (show n1 < 2 ^ 31 by omega), chk_nI ht (show 16 < 2 ^ 31 by omega), nI_clamp (show t < 2 ^ 31 by omega), RS, hn0, hn1, ht, ap_s]
    rw [C_has hs hn0 sn sl vn, ob_s, C_has hs hn1 sn1 sl1 vn1, ob_s, C_knows hs hn0 sn sl vn, ob_s, C_knows hs hn1 sn1 sl1 vn1, ob_s]
    exact hw
  have goM : ∀ (K : St) w, Bt A I K (fun p => p < 110) → (if bI (HasE A I n0 1 (nI t)) = 0 then some (4, up2 K (A 125) t 4) else (if bI (HasE A I n1 1 (nI t)) = 0 then some (4, up2 K (A 125) t 4) else (if bI (KnsE A I n0 1 (nI t)) = 0 then some (1, K) else (if bI (KnsE A I n1 1 (nI t)) = 0 then some (1, K) else (ob (F_Model_find R (A 110) (nI n1) (nI t) 1 (K (A 118) n1) K) (fun v99 => (chk (((60 : Int32) * nI n1) + v99) 360 (if (K (A 121) (((60 : Int32) * nI n1) + v99).toNatClampNeg) ≤ nx A I n0 then B_Model_prepared_120 R (A 110) (nI t) (nI n0) (nx A I n0) K else B_Model_prepared_120 R (A 110) (nI t) (nI n0) (K (A 121) (((60 : Int32) * nI n1) + v99).toNatClampNeg) K)))))))) = w → F_Model_prepared R (A 110) (nI t) K = w := by
    intro K w b hw
    have vnK : ∀ q, q < 6 → VN A K q := fun q hq => (sa.2 q hq).2.2.cg b (by omega) (by omega)
    have hH : ∀ q, HasE A K q 1 (nI t) = HasE A I q 1 (nI t) := fun q => by
      unfold HasE Mt
      rw [b 118 (by omega) (by omega), b 122 (by omega) (by omega), b 123 (by omega) (by omega)]
    have hKn : ∀ q, KnsE A K q 1 (nI t) = KnsE A I q 1 (nI t) := fun q => by
      unfold KnsE Mt
      rw [b 119 (by omega) (by omega), b 122 (by omega) (by omega), b 123 (by omega) (by omega)]
    have hN : nx A K n0 = nx A I n0 := nx.cg (b 110 (by omega) (by omega)) (b 112 (by omega) (by omega)) (b 118 (by omega) (by omega)) (b 121 (by omega) (by omega)) (b 124 (by omega) (by omega))
    unfold F_Model_prepared B_Model_prepared_43 B_Model_prepared_72
    rw [m0 K b, ob_s, m1 K b, ob_s, z3, y3, if_neg (nI_pos (by omega)), if_pos (nI_pos' (by omega)), M_has hs hn0 (vnK n0 hn0), ob_s, M_has hs hn1 (vnK n1 hn1), ob_s, M_knows hs hn0 (vnK n0 hn0), ob_s, M_knows hs hn1 (vnK n1 hn1), ob_s, M_next hs hn0 (vnK n0 hn0) (nb.cg b (by omega)) (ns.cg b (by omega) (by omega)) (eb.cg b (by omega) (fun p q1 q2 => by omega)), ob_s, hH, hH, hKn, hKn, hN, chk_nI hn1 (by omega), nI_clamp (by omega)]
    simp only [RS, ap_s, chk_nI ht (show 16 < 2 ^ 31 by omega), nI_clamp (show t < 2 ^ 31 by omega), nI_clamp (show n1 < 2 ^ 31 by omega)]
    exact hw
  have end4 : ¬ (HasE A I n0 1 (nI t) ∧ HasE A I n1 1 (nI t)) → PrE A I (up2 (up2 I (A (46 + 4 * t)) 3 4) (A 125) t 4) t := fun hno => by
    refine Or.inl ⟨fun p q1 q2 q3 => ?_, ?_, ?_, n0, n1, hn0, hn1, z3, y3, hno⟩
    · rw [V_row hs _ _ _ (by omega) q1 q3, V_row hs _ _ _ (by omega) q1 q2]
    · rw [V_row hs _ _ _ (by omega) (by omega) (by omega), V_same]
    · rw [V_same, V_row hs _ _ _ (by omega) (by omega) (by omega)]
  have b4 : Bt A I (up2 I (A (46 + 4 * t)) 3 4) (fun p => p < 110) := fun p hp hP => V_row hs _ _ _ (by omega) hp (by omega)
  by_cases l0 : HasE A I n0 1 (nI t)
  · by_cases l1 : HasE A I n1 1 (nI t)
    · by_cases k0 : KnsE A I n0 1 (nI t)
      · by_cases k1 : KnsE A I n1 1 (nI t)
        · obtain ⟨p0, hp0, hm0⟩ := l0
          obtain ⟨p1, hp1, hm1⟩ := l1
          have hu0 : ∀ j, j < (I (A 118) n0).toNatClampNeg → Mt A I n0 1 (nI t) j → j = p0 := fun j hj hj2 => uq n0 hn0 j p0 hj hp0 hj2 hm0
          have hu1 : ∀ j, j < (I (A 118) n1).toNatClampNeg → Mt A I n1 1 (nI t) j → j = p1 := fun j hj hj2 => uq n1 hn1 j p1 hj hp1 hj2 hm1
          have l0 : HasE A I n0 1 (nI t) := ⟨p0, hp0, hm0⟩
          have l1 : HasE A I n1 1 (nI t) := ⟨p1, hp1, hm1⟩
          have hp60 : p1 < 60 := by
            have h := vn1.s.2.2.2
            have : p1 < lnN A I n1 := hp1
            omega
          have find : ∀ K, Bt A I K (fun p => p < 110) → F_Model_find R (A 110) (nI n1) (nI t) 1 (K (A 118) n1) K = some (nI p1) := fun K b => by
            refine M_findAt hs hn1 (vn1.cg b (by omega) (by omega)) 1 (nI t) (by rw [b 118 (by omega) (by omega)]; exact hp1) ?_ ?_
            · unfold Mt; rw [b 122 (by omega) (by omega), b 123 (by omega) (by omega)]; exact hm1
            · intro j hj hj2
              unfold Mt at hj2
              rw [b 122 (by omega) (by omega), b 123 (by omega) (by omega)] at hj2
              rw [b 118 (by omega) (by omega)] at hj
              exact hu1 j hj hj2
          obtain ⟨st, hst⟩ : ∃ st, st = imax (nx A I n0) (I (A 121) (60 * n1 + p1)) := ⟨_, rfl⟩
          have goC3 : ∀ w, (ob2 (F_Node_put R (A (4 + 7 * n0)) 2 (nI t) (-1) (imax (I (A 121) (60 * n0 + p0)) (I (A 121) (60 * n1 + p1))) I) (fun v131 I131 => (if 0 ≤ v131 then some (2, up2 I131 (A (46 + 4 * t)) 3 2) else some (v131, I131)))) = w → F_Store_stepPreparing R (A 0) (nI t) I = w := by
            intro w hw
            refine goC w ?_
            rw [bI_if, if_pos l0, bI_if, if_pos l1, bI_if, if_pos k0, bI_if, if_pos k1, C_stampOf hs hn0 sn sl vn 1 (nI t) hp0 hm0 hu0, ob_s, C_stampOf hs hn1 sn1 sl1 vn1 1 (nI t) hp1 hm1 hu1, ob_s]
            exact hw
          have goM3 : ∀ (K : St) w, Bt A I K (fun p => p < 110) → B_Model_prepared_120 R (A 110) (nI t) (nI n0) st K = w → F_Model_prepared R (A 110) (nI t) K = w := by
            intro K w b hw
            refine goM K w b ?_
            rw [bI_if, if_pos l0, bI_if, if_pos l1, bI_if, if_pos k0, bI_if, if_pos k1, find K b, ob_s, n60, chk_nI (by omega) (by omega), nI_clamp (by omega), b 121 (by omega) (by omega)]
            rw [hst] at hw
            unfold imax at hw
            by_cases q : I (A 121) (60 * n1 + p1) ≤ nx A I n0
            · rw [if_neg (fun e => by rw [ilt] at e; rw [ile] at q; omega)] at hw
              rw [if_pos q]; exact hw
            · rw [if_pos (by rw [ilt]; rw [ile] at q; omega)] at hw
              rw [if_neg q]; exact hw
          have ep := C_put hs hn0 sa.1 sn sl vn nb ns eb 2 (nI t) (-1) (imax (I (A 121) (60 * n0 + p0)) (I (A 121) (60 * n1 + p1)))
          rw [nx_gt nb ns eb hp0, ← hst] at ep
          rcases ep with ⟨e1, e2⟩ | ⟨ln, J1, e1, e2, e3, e4, e5, e6⟩
          · refine ⟨bar A I n0 st, I, I, goC3 _ ?_, goM3 I _ bI0 ?_, bI0, Or.inl ⟨rfl, rfl⟩⟩
            · rw [e2, ob2_s, if_neg (fun q => by rw [ile, t0] at q; rw [ilt, t0] at e1; omega)]
            · unfold B_Model_prepared_120
              rw [M_bars hs hn0, ob_s, if_neg (fun q => by rw [ile, t0] at q; rw [ilt, t0] at e1; omega)]
          · have hpos : (0 : Int32) ≤ st := by
              have h := nx_t nb ns eb
              have hb := nxI_b nb ns eb
              rw [hst, ile, imax_t, t0, h]
              have := mx_s (nxI A I n0) (I (A 121) (60 * n1 + p1)).toInt
              omega
            have bJ : Bt A I (up2 J1 (A (46 + 4 * t)) 3 2) (fun p => p < 110) := fun p hp hP => by
              rw [V_row hs _ _ _ (by omega) hp (by omega), e6.1 p hp (by omega)]
            obtain ⟨K1, ek, pm1⟩ := M_put (I := up2 J1 (A (46 + 4 * t)) 3 2) hs hn0 e1 (by rw [bJ 118 (by omega) (by omega)]; exact e2) 2 (nI t) (-1) st
            rw [bJ 113 (by omega) (by omega)] at pm1
            have hbar : bar A (up2 J1 (A (46 + 4 * t)) 3 2) n0 st = 0 := by
              rw [← e4]
              unfold bar
              rw [bJ 118 (by omega) (by omega), bJ 117 (by omega) (by omega)]
            refine ⟨2, up2 J1 (A (46 + 4 * t)) 3 2, up2 K1 (A 125) t 2, goC3 _ ?_, goM3 _ _ bJ ?_, bJ, Or.inr (Or.inr ⟨n0, n1, p1, ln, hn0, hn1, z3, y3, l0, k0, k1, hp1, hm1, by rw [← hst]; exact e3, fun p q1 q2 q3 q4 q5 q6 => ?_, ?_, ?_, ?_⟩)⟩
            · rw [e5, ob2_s, if_pos hpos]
            · unfold B_Model_prepared_120
              rw [M_bars hs hn0, ob_s, hbar, if_pos (by decide), ek, ob_s, chk_nI ht (by omega), nI_clamp (by omega), ap_s]
              simp only [RS]
            · rw [V_row hs _ _ _ (by omega) q1 q3, pm1.1 p q1 (by omega), V_row hs _ _ _ (by omega) q1 q2, e6.1 p q1 q4]
            · rw [V_row hs _ _ _ (by omega) (by omega) (by omega), pm1.1 _ (by omega) (by omega), V_same, e6.1 _ (by omega) (by omega)]
            · rw [V_same, pm1.1 _ (by omega) (by omega), bJ 125 (by omega) (by omega)]
            · rw [← hst]
              have pe := PE1.of (K1 := up2 J1 (A (46 + 4 * t)) 3 2) hn0 e1 e2 (fun p q1 q2 => rfl) e6 (fun p q1 q2 => by rw [V_row hs _ _ _ (by omega) (by omega) (by omega)]) (fun p q1 => bJ p (by omega) (by omega)) pm1
              have bk : ∀ p, p < 131 → p ≠ 125 → up2 K1 (A 125) t 2 (A p) = K1 (A p) := fun p q1 q2 => V_row hs _ _ _ (by omega) q1 q2
              unfold PE1 at pe ⊢
              rw [bk _ (by omega) (by omega), bk _ (by omega) (by omega), bk _ (by omega) (by omega), bk _ (by omega) (by omega), bk _ (by omega) (by omega), bk _ (by omega) (by omega), bk _ (by omega) (by omega), bk _ (by omega) (by omega), bk _ (by omega) (by omega), bk _ (by omega) (by omega), bk _ (by omega) (by omega), bk _ (by omega) (by omega)]
              exact pe
        · exact ⟨1, I, I, goC _ (by rw [bI_if, if_pos l0, bI_if, if_pos l1, bI_if, if_pos k0, bI_if, if_neg k1]), goM I _ bI0 (by rw [bI_if, if_pos l0, bI_if, if_pos l1, bI_if, if_pos k0, bI_if, if_neg k1]), bI0, Or.inl ⟨rfl, rfl⟩⟩
      · exact ⟨1, I, I, goC _ (by rw [bI_if, if_pos l0, bI_if, if_pos l1, bI_if, if_neg k0]), goM I _ bI0 (by rw [bI_if, if_pos l0, bI_if, if_pos l1, bI_if, if_neg k0]), bI0, Or.inl ⟨rfl, rfl⟩⟩
    · exact ⟨4, _, _, goC _ (by rw [bI_if, if_pos l0, bI_if, if_neg l1]), goM _ _ b4 (by rw [bI_if, if_pos l0, bI_if, if_neg l1]), b4, Or.inr (end4 (fun h => l1 h.2))⟩
  · exact ⟨4, _, _, goC _ (by rw [bI_if, if_neg l0]), goM _ _ b4 (by rw [bI_if, if_neg l0]), b4, Or.inr (end4 (fun h => l0 h.1))⟩
end
