section
variable {R : Nat → Nat → Nat} {A : Nat → Nat} {I J K : St} {n t g b : Nat}
theorem C_wf2 (hs : Sx R A) (sa : SA A I) (sx : SX A I t) (nu : Num A I) (ht : t < 16) (ok : ∀ g, g < 2 → Us A I t g → ∃ n, WfP A I t g n) (P : Prop) : ∃ J0 J, B_Store_writeFirstEntries_23 R 100 (A 0) (nI t) (A (46 + 4 * t)) (cif P 1 2) 0 I = some (up2 J (A (46 + 4 * t)) 3 (cif P 1 2)) ∧ (((¬ ∃ n, WfP A I t 0 n) ∧ J0 = I) ∨ ∃ n ln, WfP A I t 0 n ∧ ln < 60 ∧ I (A 118) n = nI ln ∧ PuC A I J0 n ln (I (A 113) n) (nx A I n) (cif P 1 2) (nI t) (-1)) ∧ (((¬ ∃ n, WfP A I t 1 n) ∧ J = J0) ∨ ∃ n ln, WfP A I t 1 n ∧ ln < 60 ∧ I (A 118) n = nI ln ∧ PuC A J0 J n ln (I (A 113) n) (nx A I n) (cif P 1 2) (nI t) (-1)) := by
  have fin : ∀ (K : St) (f : Nat), B_Store_writeFirstEntries_23 R (f + 1) (A 0) (nI t) (A (46 + 4 * t)) (cif P 1 2) (nI 2) K = some (up2 K (A (46 + 4 * t)) 3 (cif P 1 2)) := by
    intro K f
    rw [B_Store_writeFirstEntries_23, if_pos (show (2 : Int32) ≤ nI 2 from by decide)]
    unfold B_Store_writeFirstEntries_84
    by_cases p : P
    · rw [cif_t p, if_pos rfl, ap_s]
    · rw [cif_f p, if_neg (by decide), ap_s]
  have go : ∀ (J0 : St) (f : Nat), Bt A I J0 (fun p => 5 ≤ p ∧ p < 25) → ∃ J, B_Store_writeFirstEntries_23 R (f + 1 + 1) (A 0) (nI t) (A (46 + 4 * t)) (cif P 1 2) (nI 1) J0 = some (up2 J (A (46 + 4 * t)) 3 (cif P 1 2)) ∧ (((¬ ∃ n, WfP A I t 1 n) ∧ J = J0) ∨ ∃ n ln, WfP A I t 1 n ∧ ln < 60 ∧ I (A 118) n = nI ln ∧ PuC A J0 J n ln (I (A 113) n) (nx A I n) (cif P 1 2) (nI t) (-1)) := by
    intro J0 f b
    have sg : SG A J0 1 := ⟨sa.1.cg b (by omega) (by omega) (by omega), fun n hn h3 => ⟨(sa.2 n hn).1.cg b hn (by omega) (by omega) (fun p q1 q2 => by omega), (sa.2 n hn).2.1.cg b hn (fun d hd => by omega) (fun p q1 q2 => by omega), (sa.2 n hn).2.2.cg b (by omega) (by omega)⟩⟩
    have ge : ∀ n, GE A I J0 n := fun n => GE.of (fun p hp hP => b p hp (by omega))
    have vn : ∀ n, n / 3 = 1 → VN A I n := fun n h => (sa.2 n (by omega)).2.2
    have sxJ : SX A J0 t := sx.cg b ht (fun d hd => by omega) (fun p q1 q2 => by omega)
    have hu : Us A J0 t 1 = Us A I t 1 := by
      unfold Us RdG WrG
      rw [b 126 (by omega) (by omega), b 127 (by omega) (by omega)]
    have hw : ∀ n, WfP A J0 t 1 n ↔ WfP A I t 1 n := WfP.ge9 (by omega) (fun n _ => ge n) vn hu
    rcases C_wf (I := J0) (t := t) (g := 1) hs (by omega) sg (C_usesGroup hs ht sxJ (by omega)) (nu.1.cg b (by omega)) (fun n hn h => ⟨(nu.2.1 n hn).1.cg b (by omega) (by omega), (nu.2.1 n hn).2.1.cg b (by omega) (fun p q1 q2 => by omega)⟩) (fun u => (ok 1 (by omega) (by rw [← hu]; exact u)).elim fun n h => ⟨n, (hw n).mpr h⟩) (cif P 1 2) (f + 1) with ⟨h1, e1⟩ | ⟨n, ln, J, h1, h2, h3, h4, e1, h5⟩
    · exact ⟨J0, by rw [e1]; exact fin J0 f, Or.inl ⟨fun ⟨n, h⟩ => h1 ⟨n, (hw n).mpr h⟩, rfl⟩⟩
    · rw [b 113 (by omega) (by omega), (ge n).nx (vn n h1.2.1)] at h5
      rw [b 118 (by omega) (by omega)] at h3
      exact ⟨J, by rw [e1]; exact fin J f, Or.inr ⟨n, ln, (hw n).mp h1, h2, h3, h5⟩⟩
  rcases C_wf (I := I) (t := t) (g := 0) hs (by omega) (sa.g 0) (C_usesGroup hs ht sx (by omega)) nu.1 (fun n hn h => ⟨(nu.2.1 n hn).1, (nu.2.1 n hn).2.1⟩) (ok 0 (by omega)) (cif P 1 2) 99 with ⟨h1, e1⟩ | ⟨n, ln, J0, h1, h2, h3, h4, e1, h5⟩
  · obtain ⟨J, e, h⟩ := go I 97 (fun p hp hP => rfl)
    exact ⟨I, J, e1.trans e, Or.inl ⟨h1, rfl⟩, h⟩
  · have hn3 := h1.2.1
    obtain ⟨J, e, h⟩ := go J0 97 (fun p hp hP => h5.1 p hp (by omega))
    exact ⟨J0, J, e1.trans e, Or.inr ⟨n, ln, h1, h2, h3, h5⟩, h⟩
theorem M_wf2 (hs : Sx R A) (va : VA A I) (nb : NB A I) (nse : ∀ n, n < 6 → NS A I n ∧ EB A I n) (ht : t < 16) (ok : ∀ g, g < 2 → Us A I t g → ∃ n, WfP A I t g n) (P : Prop) : ∃ K0 K, B_Model_commit_232 R 100 (A 110) (nI t) (bI P) 0 I = some (cif P 1 2, up2 K (A 125) t (cif P 1 2)) ∧ (((¬ ∃ n, WfP A I t 0 n) ∧ K0 = I) ∨ ∃ n ln, WfP A I t 0 n ∧ ln < 60 ∧ I (A 118) n = nI ln ∧ PuM A I K0 n ln (I (A 113) n) (nx A I n) (cif P 1 2) (nI t) (-1)) ∧ (((¬ ∃ n, WfP A I t 1 n) ∧ K = K0) ∨ ∃ n ln, WfP A I t 1 n ∧ ln < 60 ∧ I (A 118) n = nI ln ∧ PuM A K0 K n ln (I (A 113) n) (nx A I n) (cif P 1 2) (nI t) (-1)) := by
  have RS := hs.all
  have fin : ∀ (K : St) (f : Nat), B_Model_commit_232 R (f + 1) (A 110) (nI t) (bI P) (nI 2) K = some (cif P 1 2, up2 K (A 125) t (cif P 1 2)) := by
    intro K f
    rw [B_Model_commit_232, if_pos (show (2 : Int32) ≤ nI 2 from by decide), bI_if]
    unfold B_Model_commit_299
    simp only [chk_nI ht (show 16 < 2 ^ 31 by omega), nI_clamp (show t < 2 ^ 31 by omega), RS, ap_s, V_same, upd_s]
    by_cases p : P
    · rw [if_pos p, cif_t p]
    · rw [if_neg p, cif_f p]
  have go : ∀ (K0 : St) (f : Nat), (∀ n, n / 3 = 1 → GE A I K0 n) → Us A K0 t 1 = Us A I t 1 → ∃ K, B_Model_commit_232 R (f + 1 + 1) (A 110) (nI t) (bI P) (nI 1) K0 = some (cif P 1 2, up2 K (A 125) t (cif P 1 2)) ∧ (((¬ ∃ n, WfP A I t 1 n) ∧ K = K0) ∨ ∃ n ln, WfP A I t 1 n ∧ ln < 60 ∧ I (A 118) n = nI ln ∧ PuM A K0 K n ln (I (A 113) n) (nx A I n) (cif P 1 2) (nI t) (-1)) := by
    intro K0 f ge hu
    have vn : ∀ n, n / 3 = 1 → VN A I n := fun n h => va n (by omega)
    have hw : ∀ n, WfP A K0 t 1 n ↔ WfP A I t 1 n := WfP.ge9 (by omega) ge vn hu
    rcases M_wf (I := K0) (t := t) (g := 1) hs (by omega) (fun n hn h => (ge n h).vn (vn n h)) ht ((ge 3 (by omega)).nb nb) (fun n hn h => ⟨(ge n h).ns (nse n hn).1, (ge n h).eb (vn n h) (nse n hn).2⟩) (fun u => (ok 1 (by omega) (by rw [← hu]; exact u)).elim fun n h => ⟨n, (hw n).mpr h⟩) P (f + 1) with ⟨h1, e1⟩ | ⟨n, ln, K, h1, h2, h3, e1, h5⟩
    · exact ⟨K0, by rw [e1]; exact fin K0 f, Or.inl ⟨fun ⟨n, h⟩ => h1 ⟨n, (hw n).mpr h⟩, rfl⟩⟩
    · have g1 := ge n h1.2.1
      rw [g1.2.1 113 (by omega) (by omega), g1.nx (vn n h1.2.1)] at h5
      rw [g1.2.1 118 (by omega) (by omega)] at h3
      exact ⟨K, by rw [e1]; exact fin K f, Or.inr ⟨n, ln, (hw n).mp h1, h2, h3, h5⟩⟩
  rcases M_wf (I := I) (t := t) (g := 0) hs (by omega) (fun n hn h => va n hn) ht nb (fun n hn h => nse n hn) (ok 0 (by omega)) P 99 with ⟨h1, e1⟩ | ⟨n, ln, K0, h1, h2, h3, e1, h5⟩
  · obtain ⟨K, e, h⟩ := go I 97 (fun n _ => ⟨rfl, fun p _ _ => rfl, fun p _ _ k _ => rfl⟩) rfl
    exact ⟨I, K, e1.trans e, Or.inl ⟨h1, rfl⟩, h⟩
  · have hn3 := h1.2.1
    obtain ⟨K, e, h⟩ := go K0 97 (fun m hm => GE.put (by omega) h2 h5) (by
      unfold Us RdG WrG
      rw [h5.1 126 (by omega) (by omega), h5.1 127 (by omega) (by omega)])
    exact ⟨K0, K, e1.trans e, Or.inr ⟨n, ln, h1, h2, h3, h5⟩, h⟩
theorem PE1.row9 {K' : St} {ln : Nat} {ep st kd ow ou : Int32} (hn : n < 6) (h : PE1 A I K n ln ep st kd ow ou) (hr : ∀ p, (5 ≤ p ∧ p < 46) ∨ (110 ≤ p ∧ p < 125) → K' (A p) = K (A p)) : PE1 A I K' n ln ep st kd ow ou := by
  unfold PE1 at h ⊢
  rw [hr (5 + 7 * n) (by omega), hr (6 + 7 * n) (by omega), hr (7 + 7 * n) (by omega), hr (8 + 7 * n) (by omega), hr (9 + 7 * n) (by omega), hr (10 + 7 * n) (by omega), hr 118 (by omega), hr 120 (by omega), hr 121 (by omega), hr 122 (by omega), hr 123 (by omega), hr 124 (by omega)]
  exact h
/-- class in both groups, then reference in both groups, told from a state X that has the same logs -/
theorem Pt.gen {X I1 J0 J S K0 K2 K : St} {P : Nat → Nat → Prop} {st : Nat → Int32} {kd ow ou : Int32} (hs : Sx R A) (hP : ∀ g n, P g n → n < 6 ∧ n / 3 = g) (hq : ∀ g n m, P g n → P g m → n = m) (hx : ∀ p, (5 ≤ p ∧ p < 46) ∨ (110 ≤ p ∧ p < 125) → I1 (A p) = X (A p)) (hS : ∀ p, 5 ≤ p → p < 46 → S (A p) = J (A p)) (hS2 : ∀ p, 110 ≤ p → p < 125 → S (A p) = X (A p)) (hK : ∀ p, (5 ≤ p ∧ p < 46) ∨ (110 ≤ p ∧ p < 125) → K (A p) = K2 (A p)) (hR : ∀ p, p < 131 → ¬ ((5 ≤ p ∧ p < 46) ∨ (110 ≤ p ∧ p < 125)) → K (A p) = X (A p))
    (a0 : ((¬ ∃ n, P 0 n) ∧ J0 = I1) ∨ ∃ n ln, P 0 n ∧ ln < 60 ∧ X (A 118) n = nI ln ∧ PuC A I1 J0 n ln (X (A 113) n) (st n) kd ow ou) (a1 : ((¬ ∃ n, P 1 n) ∧ J = J0) ∨ ∃ n ln, P 1 n ∧ ln < 60 ∧ X (A 118) n = nI ln ∧ PuC A J0 J n ln (X (A 113) n) (st n) kd ow ou)
    (m0 : ((¬ ∃ n, P 0 n) ∧ K0 = S) ∨ ∃ n ln, P 0 n ∧ ln < 60 ∧ X (A 118) n = nI ln ∧ PuM A S K0 n ln (X (A 113) n) (st n) kd ow ou) (m1 : ((¬ ∃ n, P 1 n) ∧ K2 = K0) ∨ ∃ n ln, P 1 n ∧ ln < 60 ∧ X (A 118) n = nI ln ∧ PuM A K0 K2 n ln (X (A 113) n) (st n) kd ow ou) :
    ∃ Y, (Bt A X Y (fun _ => False) ∨ ∃ n ln, P 0 n ∧ Pt A X Y n ln (X (A 113) n) (st n) kd ow ou) ∧ (Bt A Y K (fun _ => False) ∨ ∃ n ln, P 1 n ∧ Pt A Y K n ln (X (A 113) n) (st n) kd ow ou) := by
  obtain ⟨Z, hZ⟩ : ∃ Z : St, Z = fun a j => cif (∃ p, 5 ≤ p ∧ p < 46 ∧ a = A p) (J0 a j) (X a j) := ⟨_, rfl⟩
  have z1 : ∀ p, 5 ≤ p → p < 46 → Z (A p) = J0 (A p) := fun p q1 q2 => by
    rw [hZ]
    funext j
    exact cif_t (P := ∃ p', 5 ≤ p' ∧ p' < 46 ∧ A p = A p') ⟨p, q1, q2, rfl⟩
  have z2 : ∀ p, p < 131 → ¬ (5 ≤ p ∧ p < 46) → Z (A p) = X (A p) := fun p q1 q2 => by
    rw [hZ]
    funext j
    exact cif_f (P := ∃ p', 5 ≤ p' ∧ p' < 46 ∧ A p = A p') (fun ⟨p', h1, h2, h3⟩ => q2 (by have := hs.1 p p' q1 (by omega) h3; omega))
  have k0 : ∀ p, 5 ≤ p → p < 46 → K0 (A p) = J (A p) := fun p q1 q2 => by
    rcases m0 with ⟨-, e⟩ | ⟨n, ln, -, -, -, pm⟩
    · rw [e]; exact hS p q1 q2
    · rw [pm.1 p (by omega) (by omega)]; exact hS p q1 q2
  obtain ⟨Y, y0, y1, y2, y3⟩ : ∃ Y, (Bt A X Y (fun _ => False) ∨ ∃ n ln, P 0 n ∧ Pt A X Y n ln (X (A 113) n) (st n) kd ow ou) ∧ (∀ p, 5 ≤ p → p < 46 → Y (A p) = J0 (A p)) ∧ (∀ p, 110 ≤ p → p < 125 → Y (A p) = K0 (A p)) ∧ (∀ p, p < 131 → ¬ ((5 ≤ p ∧ p < 46) ∨ (110 ≤ p ∧ p < 125)) → Y (A p) = X (A p)) := by
    rcases a0 with ⟨c0, ea⟩ | ⟨n0, l0, w0, x1, x2, pc0⟩
    · rcases m0 with ⟨-, eb⟩ | ⟨m, l, w, -⟩
      · refine ⟨Z, Or.inl (fun p hp _ => ?_), z1, fun p q1 q2 => ?_, fun p q1 q2 => z2 p q1 (by omega)⟩
        · by_cases c : 5 ≤ p ∧ p < 46
          · rw [z1 p c.1 c.2, ea]; exact hx p (Or.inl c)
          · exact z2 p hp c
        · rw [z2 p (by omega) (by omega), eb, hS2 p q1 q2]
      · exact absurd ⟨m, w⟩ c0
    · rcases m0 with ⟨h, -⟩ | ⟨m, l, w, v1, v2, pm0⟩
      · exact absurd ⟨n0, w0⟩ h
      · obtain rfl : m = n0 := hq 0 _ _ w w0
        obtain rfl : l = l0 := nI_inj (by omega) (by omega) (v2.symm.trans x2)
        obtain ⟨hm, hm3⟩ := hP 0 m w
        obtain ⟨Y, -, q⟩ := M_put (I := Z) hs hm x1 (by rw [z2 118 (by omega) (by omega)]; exact x2) kd ow ou (st m)
        rw [z2 113 (by omega) (by omega)] at q
        refine ⟨Y, Or.inr ⟨m, l, w, hm, fun p hp hn => ?_, PE1.of (J1 := I1) (K1 := Z) hm x1 x2 (fun p q1 q2 => hx p (by omega)) pc0 (fun p q1 q2 => z1 p (by omega) (by omega)) (fun p q1 => z2 p (by omega) (by omega)) q⟩, fun p q1 q2 => ?_, fun p q1 q2 => ?_, fun p q1 q2 => ?_⟩
        · rw [q.1 p hp (by omega)]
          by_cases c : 5 ≤ p ∧ p < 46
          · rw [z1 p c.1 c.2, pc0.1 p hp (by omega)]; exact hx p (Or.inl c)
          · exact z2 p hp c
        · rw [q.1 p (by omega) (by omega)]; exact z1 p q1 q2
        · by_cases c : p = 118 ∨ (120 ≤ p ∧ p < 125)
          · have zs : Z (A p) = S (A p) := by rw [z2 p (by omega) (by omega), hS2 p q1 q2]
            obtain ⟨-, s8, s0, s1, s2, s3, s4⟩ := pm0
            obtain ⟨-, t8, t0, t1, t2, t3, t4⟩ := q
            rcases (show p = 118 ∨ p = 120 ∨ p = 121 ∨ p = 122 ∨ p = 123 ∨ p = 124 by omega) with e | e | e | e | e | e <;> subst e
            · rw [s8, t8, zs]
            · rw [s0, t0, zs]
            · rw [s1, t1, zs]
            · rw [s2, t2, zs]
            · rw [s3, t3, zs]
            · rw [s4, t4, zs]
          · rw [q.1 p (by omega) c, pm0.1 p (by omega) c, z2 p (by omega) (by omega), hS2 p q1 q2]
        · rw [q.1 p q1 (by omega)]; exact z2 p q1 (by omega)
  refine ⟨Y, y0, ?_⟩
  rcases a1 with ⟨c1, ea⟩ | ⟨n1, l1, w1, x1, x2, pc1⟩
  · rcases m1 with ⟨-, eb⟩ | ⟨m, l, w, -⟩
    · refine Or.inl (fun p hp _ => ?_)
      by_cases c : 5 ≤ p ∧ p < 46
      · rw [hK p (Or.inl c), eb, k0 p c.1 c.2, ea, y1 p c.1 c.2]
      · by_cases d : 110 ≤ p ∧ p < 125
        · rw [hK p (Or.inr d), eb, y2 p d.1 d.2]
        · rw [hR p hp (by omega), y3 p hp (by omega)]
    · exact absurd ⟨m, w⟩ c1
  · rcases m1 with ⟨h, -⟩ | ⟨m, l, w, v1, v2, pm1⟩
    · exact absurd ⟨n1, w1⟩ h
    · obtain rfl : m = n1 := hq 1 _ _ w w1
      obtain rfl : l = l1 := nI_inj (by omega) (by omega) (v2.symm.trans x2)
      obtain ⟨hm, hm3⟩ := hP 1 m w
      have h8 : Y (A 118) m = nI l := by
        rw [y2 118 (by omega) (by omega)]
        rcases m0 with ⟨-, e⟩ | ⟨n0, l0, w0, -, -, pm0⟩
        · rw [e, hS2 118 (by omega) (by omega)]; exact x2
        · have := (hP 0 n0 w0).2
          rw [pm0.2.1, upd_n _ _ (by omega), hS2 118 (by omega) (by omega)]; exact x2
      refine Or.inr ⟨m, l, w, hm, fun p hp hn => ?_, PE1.row9 hm (PE1.of (J1 := J0) (K1 := K0) hm x1 h8 (fun p q1 q2 => (y1 p (by omega) (by omega)).symm) pc1 (fun p q1 q2 => k0 p (by omega) (by omega)) (fun p q1 => (y2 p (by omega) (by omega)).symm) pm1) hK⟩
      by_cases c : 5 ≤ p ∧ p < 46
      · rw [hK p (Or.inl c), pm1.1 p hp (by omega), k0 p c.1 c.2, pc1.1 p hp (by omega), y1 p c.1 c.2]
      · by_cases d : 110 ≤ p ∧ p < 125
        · rw [hK p (Or.inr d), pm1.1 p hp (by omega), y2 p d.1 d.2]
        · rw [hR p hp (by omega), y3 p hp (by omega)]
end
