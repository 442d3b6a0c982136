section
variable {R : Nat → Nat → Nat} {A : Nat → Nat} {I J K : St} {n t g : Nat}
/-- an entry is written at the end of both logs of n, all else stays -/
def Pt (A : Nat → Nat) (I K : St) (n ln : Nat) (ep st kd ow ou : Int32) : Prop := n < 6 ∧ Bt A I K (fun p => (5 + 7 * n ≤ p ∧ p < 11 + 7 * n) ∨ p = 118 ∨ (120 ≤ p ∧ p < 125)) ∧ PE1 A I K n ln ep st kd ow ou
theorem Pt.one {ln : Nat} {ep st kd ow ou : Int32} (hn : n < 6) (hl : ln < 60) (h8 : I (A 118) n = nI ln) (pc : PuC A I J n ln ep st kd ow ou) (pm : PuM A J K n ln ep st kd ow ou) : Pt A I K n ln ep st kd ow ou := by
  refine ⟨hn, fun p hp hP => ?_, PE1.of (J1 := I) (K1 := J) hn hl h8 (fun p q1 q2 => rfl) pc (fun p q1 q2 => rfl) (fun p q1 => ?_) pm⟩
  · rw [pm.1 p hp (by omega), pc.1 p hp (by omega)]
  · exact pc.1 p (by omega) (by omega)
/-- class in both groups, then reference in both groups: one group after the other -/
theorem Pt.two {J0 K0 : St} {n0 n1 l0 l1 : Nat} {s0 k0 o0 u0 e1 s1 k1 o1 u1 : Int32} (hs : Sx R A) (h0 : n0 / 3 = 0) (h1 : n1 / 3 = 1) (w0 : l0 < 60) (w1 : l1 < 60) (x0 : I (A 118) n0 = nI l0) (x1 : I (A 118) n1 = nI l1) (pc0 : PuC A I J0 n0 l0 (I (A 113) n0) s0 k0 o0 u0) (pc1 : PuC A J0 J n1 l1 e1 s1 k1 o1 u1) (pm0 : PuM A J K0 n0 l0 (I (A 113) n0) s0 k0 o0 u0) (pm1 : PuM A K0 K n1 l1 e1 s1 k1 o1 u1) : ∃ I1, Pt A I I1 n0 l0 (I (A 113) n0) s0 k0 o0 u0 ∧ Pt A I1 K n1 l1 e1 s1 k1 o1 u1 := by
  obtain ⟨I1, -, q⟩ := M_put (I := J0) hs (show n0 < 6 by omega) w0 (by rw [pc0.1 118 (by omega) (by omega)]; exact x0) k0 o0 u0 s0
  rw [pc0.1 113 (by omega) (by omega)] at q
  refine ⟨I1, Pt.one (by omega) w0 x0 pc0 q, by omega, fun p hp hP => ?_, ?_⟩
  · rw [pm1.1 p hp (by omega), pm0.1 p hp (by omega), pc1.1 p hp (by omega), q.1 p hp (by omega)]
  · refine PE1.of (J1 := J0) (K1 := K0) (by omega) w1 ?_ (fun p a1 a2 => (q.1 p (by omega) (by omega)).symm) pc1 (fun p a1 a2 => pm0.1 p (by omega) (by omega)) (fun p hp => ?_) pm1
    · rw [q.2.1, upd_n _ _ (by omega), pc0.1 118 (by omega) (by omega)]; exact x1
    · have j : J (A p) = J0 (A p) := pc1.1 p (by omega) (by omega)
      obtain ⟨-, m8, m0, m1, m2, m3, m4⟩ := pm0
      obtain ⟨-, x8, x0, x1, x2, x3, x4⟩ := q
      rcases (show p = 118 ∨ p = 120 ∨ p = 121 ∨ p = 122 ∨ p = 123 ∨ p = 124 by omega) with e | e | e | e | e | e <;> subst e
      · rw [m8, x8, j]
      · rw [m0, x0, j]
      · rw [m1, x1, j]
      · rw [m2, x2, j]
      · rw [m3, x3, j]
      · rw [m4, x4, j]
theorem GE.pt {m ln : Nat} {ep st kd ow ou : Int32} (hnm : n ≠ m) (h : Pt A I K m ln ep st kd ow ou) : GE A I K n := by
  obtain ⟨hm, hb, hl, h8, -, c8, c0, c1, c2, c3, c4⟩ := h
  refine ⟨hb 110 (by omega) (by omega), fun p q1 q2 => ?_, fun p q1 q2 k hk => ?_⟩
  · by_cases e : p = 118
    · subst e; rw [c8, upd_n _ _ hnm]
    · rw [hb p (by omega) (by omega)]
  · have hne : 60 * n + k ≠ 60 * m + ln := by omega
    rcases (show p = 120 ∨ p = 121 ∨ p = 122 ∨ p = 123 ∨ p = 124 by omega) with e | e | e | e | e <;> subst e
    · rw [c0, upd_n _ _ hne]
    · rw [c1, upd_n _ _ hne]
    · rw [c2, upd_n _ _ hne]
    · rw [c3, upd_n _ _ hne]
    · rw [c4, upd_n _ _ hne]
theorem WoP.ge (hg : g < 2) (h : ∀ n, n / 3 = g → GE A I J n) (vn : ∀ n, n / 3 = g → VN A I n) (n : Nat) : WoP A J t g n ↔ WoP A I t g n := by
  have e : ∀ b : n / 3 = g, (HasE A J n 1 (nI t) ∧ ¬ HasE A J n 2 (nI t) ∧ ¬ HasE A J n 3 (nI t) ∧ bar A J n (nx A J n) = 0) = (HasE A I n 1 (nI t) ∧ ¬ HasE A I n 2 (nI t) ∧ ¬ HasE A I n 3 (nI t) ∧ bar A I n (nx A I n) = 0) := fun b => by
    rw [(h n b).has (vn n b), (h n b).has (vn n b), (h n b).has (vn n b), (h n b).nx (vn n b), (h n b).bar]
  unfold WoP
  rw [GE.rdy hg h vn]
  exact ⟨fun ⟨a, b, c, d⟩ => ⟨a, b, c, (e b).mp d⟩, fun ⟨a, b, c, d⟩ => ⟨a, b, c, (e b).mpr d⟩⟩
theorem C_wo2 (hs : Sx R A) (sm : Sim A I) (nu : Num A I) (ht : t < 16) : ∃ J0 J, F_Store_writeOutcome R (A 0) (nI t) 0 I = some J0 ∧ F_Store_writeOutcome R (A 0) (nI t) 1 J0 = some J ∧ (((¬ ∃ n, WoP A I t 0 n) ∧ J0 = I) ∨ ∃ n ln, WoP A I t 0 n ∧ ln < 60 ∧ I (A 118) n = nI ln ∧ ¬ I (A 117) n ≤ nx A I n ∧ PuC A I J0 n ln (I (A 113) n) (nx A I n) 3 (nI t) (ouT A I t)) ∧ (((¬ ∃ n, WoP A I t 1 n) ∧ J = J0) ∨ ∃ n ln, WoP A I t 1 n ∧ ln < 60 ∧ I (A 118) n = nI ln ∧ ¬ I (A 117) n ≤ nx A I n ∧ PuC A J0 J n ln (I (A 113) n) (nx A I n) 3 (nI t) (ouT A I t)) := by
  have sa := sm.1
  have sx := sm.2 t ht
  have c0 := C_wo (g := 0) hs (by omega) (sa.g 0) ht sx.1 sx.2.1 nu.1 (fun n hn _ => ⟨(nu.2.1 n hn).1, (nu.2.1 n hn).2.1⟩)
  rw [show nI 0 = (0 : Int32) from rfl] at c0
  have go : ∀ J0, Bt A I J0 (fun p => 5 ≤ p ∧ p < 25) → ∃ J, F_Store_writeOutcome R (A 0) (nI t) 1 J0 = some J ∧ (((¬ ∃ n, WoP A I t 1 n) ∧ J = J0) ∨ ∃ n ln, WoP A I t 1 n ∧ ln < 60 ∧ I (A 118) n = nI ln ∧ ¬ I (A 117) n ≤ nx A I n ∧ PuC A J0 J n ln (I (A 113) n) (nx A I n) 3 (nI t) (ouT A I t)) := by
    intro J0 b
    have sg : SG A J0 1 := ⟨sa.1.cg b (by omega) (by omega) (by omega), fun n hn h3 => ⟨(sa.2 n hn).1.cg b hn (by omega) (by omega) (fun p q1 q2 => by omega), (sa.2 n hn).2.1.cg b hn (fun d hd => by omega) (fun p q1 q2 => by omega), (sa.2 n hn).2.2.cg b (by omega) (by omega)⟩⟩
    have ge : ∀ n, GE A I J0 n := fun n => GE.of (fun p hp hP => b p hp (by omega))
    have vn : ∀ n, n / 3 = 1 → VN A I n := fun n h => (sa.2 n (by omega)).2.2
    have c1 := C_wo (I := J0) (g := 1) hs (by omega) sg ht (by rw [b _ (by omega) (by omega), b 125 (by omega) (by omega)]; exact sx.1) (by rw [b _ (by omega) (by omega), b 130 (by omega) (by omega)]; exact sx.2.1) (nu.1.cg b (by omega)) (fun n hn h => ⟨(nu.2.1 n hn).1.cg b (by omega) (by omega), (nu.2.1 n hn).2.1.cg b (by omega) (fun p q1 q2 => by omega)⟩)
    rw [show nI 1 = (1 : Int32) from rfl] at c1
    have hw : ∀ n, WoP A J0 t 1 n ↔ WoP A I t 1 n := WoP.ge (by omega) (fun n _ => ge n) vn
    have ho : ouT A J0 t = ouT A I t := by
      unfold ouT
      rw [b 125 (by omega) (by omega), b 130 (by omega) (by omega)]
    rcases c1 with ⟨h1, e1⟩ | ⟨n, ln, J, h1, h2, h3, h4, e1, h5⟩
    · exact ⟨J0, e1, Or.inl ⟨fun ⟨n, h⟩ => h1 ⟨n, (hw n).mpr h⟩, rfl⟩⟩
    · have hx := (ge n).nx (vn n h1.2.1)
      rw [b 113 (by omega) (by omega), hx, ho] at h5
      rw [b 118 (by omega) (by omega)] at h3
      rw [b 117 (by omega) (by omega), hx] at h4
      exact ⟨J, e1, Or.inr ⟨n, ln, (hw n).mp h1, h2, h3, h4, h5⟩⟩
  rcases c0 with ⟨h1, e1⟩ | ⟨n, ln, J0, h1, h2, h3, h4, e1, h5⟩
  · obtain ⟨J, e, h⟩ := go I (fun p hp hP => rfl)
    exact ⟨I, J, e1, e, Or.inl ⟨h1, rfl⟩, h⟩
  · have hn3 := h1.2.1
    obtain ⟨J, e, h⟩ := go J0 (fun p hp hP => h5.1 p hp (by omega))
    exact ⟨J0, J, e1, e, Or.inr ⟨n, ln, h1, h2, h3, h4, h5⟩, h⟩
theorem M_wo2 (hs : Sx R A) (sa : SA A I) (nu : Num A I) (ht : t < 16) (h3 : ¬ I (A 125) t < 3) (mr : MR A I J) : ∃ K0 K, B_Model_step_47 R 100 (A 110) (nI t) 0 J = some (I (A 125) t, K) ∧ (((¬ ∃ n, WoP A I t 0 n) ∧ K0 = J) ∨ ∃ n ln, WoP A I t 0 n ∧ ln < 60 ∧ I (A 118) n = nI ln ∧ PuM A J K0 n ln (I (A 113) n) (nx A I n) 3 (nI t) (ouT A I t)) ∧ (((¬ ∃ n, WoP A I t 1 n) ∧ K = K0) ∨ ∃ n ln, WoP A I t 1 n ∧ ln < 60 ∧ I (A 118) n = nI ln ∧ PuM A K0 K n ln (I (A 113) n) (nx A I n) 3 (nI t) (ouT A I t)) := by
  have RS := hs.all
  have fin : ∀ (K : St) (f : Nat), K (A 125) = I (A 125) → B_Model_step_47 R (f + 1) (A 110) (nI t) (nI 2) K = some (I (A 125) t, K) := by
    intro K f h
    rw [B_Model_step_47, if_pos (show (2 : Int32) ≤ nI 2 from by decide)]
    unfold B_Model_step_154
    simp only [chk_nI ht (show 16 < 2 ^ 31 by omega), nI_clamp (show t < 2 ^ 31 by omega), RS, h]
  have vn : ∀ n, n < 6 → VN A I n := fun n h => (sa.2 n h).2.2
  have go : ∀ (K0 : St) (f : Nat), (∀ n, n / 3 = 1 → GE A I K0 n) → K0 (A 125) = I (A 125) → K0 (A 130) = I (A 130) → ∃ K, B_Model_step_47 R (f + 1 + 1) (A 110) (nI t) (nI 1) K0 = some (I (A 125) t, K) ∧ (((¬ ∃ n, WoP A I t 1 n) ∧ K = K0) ∨ ∃ n ln, WoP A I t 1 n ∧ ln < 60 ∧ I (A 118) n = nI ln ∧ PuM A K0 K n ln (I (A 113) n) (nx A I n) 3 (nI t) (ouT A I t)) := by
    intro K0 f ge e5 e0
    have vn1 : ∀ n, n / 3 = 1 → VN A I n := fun n h => vn n (by omega)
    have hw : ∀ n, WoP A K0 t 1 n ↔ WoP A I t 1 n := WoP.ge (by omega) ge vn1
    have ho : ouT A K0 t = ouT A I t := by
      unfold ouT
      rw [e5, e0]
    rcases M_wo (I := K0) (g := 1) hs (by omega) (fun n hn h => (ge n h).vn (vn n hn)) ht (by rw [e5]; exact h3) ((ge 3 (by omega)).nb nu.1) (fun n hn h => ⟨(ge n h).ns (nu.2.1 n hn).1, (ge n h).eb (vn n hn) (nu.2.1 n hn).2.1⟩) (f + 1) with ⟨h1, e1⟩ | ⟨n, ln, K, h1, h2, h4, e1, h5⟩
    · exact ⟨K0, by rw [e1]; exact fin K0 f e5, Or.inl ⟨fun ⟨n, h⟩ => h1 ⟨n, (hw n).mpr h⟩, rfl⟩⟩
    · have g1 := ge n h1.2.1
      rw [g1.2.1 113 (by omega) (by omega), g1.nx (vn n h1.1), ho] at h5
      rw [g1.2.1 118 (by omega) (by omega)] at h4
      exact ⟨K, by rw [e1]; exact fin K f (by rw [h5.1 125 (by omega) (by omega)]; exact e5), Or.inr ⟨n, ln, (hw n).mp h1, h2, h4, h5⟩⟩
  have ge0 : ∀ n, GE A I J n := fun n => GE.of (fun p hp hP => mr p (by omega) hp)
  have hw0 : ∀ n, WoP A J t 0 n ↔ WoP A I t 0 n := WoP.ge (by omega) (fun n _ => ge0 n) (fun n h => vn n (by omega))
  have ho0 : ouT A J t = ouT A I t := by
    unfold ouT
    rw [mr 125 (by omega) (by omega), mr 130 (by omega) (by omega)]
  rcases M_wo (I := J) (g := 0) hs (by omega) (fun n hn h => (ge0 n).vn (vn n hn)) ht (by rw [mr 125 (by omega) (by omega)]; exact h3) ((ge0 3).nb nu.1) (fun n hn h => ⟨(ge0 n).ns (nu.2.1 n hn).1, (ge0 n).eb (vn n hn) (nu.2.1 n hn).2.1⟩) 99 with ⟨h1, e1⟩ | ⟨n, ln, K0, h1, h2, h4, e1, h5⟩
  · obtain ⟨K, e, h⟩ := go J 97 (fun n _ => ge0 n) (mr 125 (by omega) (by omega)) (mr 130 (by omega) (by omega))
    exact ⟨J, K, e1.trans e, Or.inl ⟨fun ⟨n, h⟩ => h1 ⟨n, (hw0 n).mpr h⟩, rfl⟩, h⟩
  · have hn3 := h1.2.1
    obtain ⟨K, e, h⟩ := go K0 97 (fun m hm => (ge0 m).trans (GE.put (by omega) h2 h5)) (by rw [h5.1 125 (by omega) (by omega)]; exact mr 125 (by omega) (by omega)) (by rw [h5.1 130 (by omega) (by omega)]; exact mr 130 (by omega) (by omega))
    rw [mr 113 (by omega) (by omega), (ge0 n).nx (vn n h1.1), ho0] at h5
    rw [mr 118 (by omega) (by omega)] at h4
    exact ⟨K0, K, e1.trans e, Or.inr ⟨n, ln, (hw0 n).mp h1, h2, h4, h5⟩, h⟩
/-- an OUTCOME in the group g, or nothing -/
def Ou1 (A : Nat → Nat) (I K : St) (t g : Nat) : Prop := K = I ∨ ∃ n ln, WoP A I t g n ∧ ¬ I (A 117) n ≤ nx A I n ∧ Pt A I K n ln (I (A 113) n) (nx A I n) 3 (nI t) (ouT A I t)
def OuE (A : Nat → Nat) (I K : St) (t : Nat) : Prop := ∃ I1, Ou1 A I I1 t 0 ∧ Ou1 A I1 K t 1
theorem e_outcomes (hs : Sx R A) (sm : Sim A I) (nu : Num A I) (ht : t < 16) (h3 : ¬ I (A 125) t < 3) : ∃ J0 J K, F_Store_writeOutcome R (A 0) (nI t) 0 I = some J0 ∧ F_Store_writeOutcome R (A 0) (nI t) 1 J0 = some J ∧ J (A (46 + 4 * t)) 3 = I (A 125) t ∧ B_Model_step_47 R 100 (A 110) (nI t) 0 J = some (I (A 125) t, K) ∧ OuE A I K t ∧ MR A I J := by
  obtain ⟨J0, J, e0, e1, a0, a1⟩ := C_wo2 hs sm nu ht
  have b0 : Bt A I J0 (fun p => 5 ≤ p ∧ p < 46) := by
    rcases a0 with ⟨-, e⟩ | ⟨n, ln, w, h1, h2, h3, pc⟩
    · intro p hp hP; rw [e]
    · intro p hp hP
      have := w.1
      exact pc.1 p hp (by omega)
  have b1 : Bt A I J (fun p => 5 ≤ p ∧ p < 46) := by
    rcases a1 with ⟨-, e⟩ | ⟨n, ln, w, h1, h2, h3, pc⟩
    · rw [e]; exact b0
    · intro p hp hP
      have := w.1
      rw [pc.1 p hp (by omega)]
      exact b0 p hp hP
  have mr : MR A I J := fun p q1 q2 => b1 p q2 (by omega)
  obtain ⟨K0, K, e2, m0, m1⟩ := M_wo2 hs sm.1 nu ht h3 mr
  refine ⟨J0, J, K, e0, e1, by rw [b1 _ (by omega) (by omega)]; exact (sm.2 t ht).1, e2, ?_, mr⟩
  have vn1 : ∀ n, n / 3 = 1 → VN A I n := fun n h => (sm.1.2 n (by omega)).2.2
  rcases a0 with ⟨c0, ea⟩ | ⟨n0, l0, w0, x1, x2, x3, pc0⟩
  · rcases m0 with ⟨-, eb⟩ | ⟨m, l, w, -⟩
    · rcases a1 with ⟨c1, ec⟩ | ⟨n1, l1, w1, y1, y2, y3, pc1⟩
      · rcases m1 with ⟨-, ed⟩ | ⟨m, l, w, -⟩
        · exact ⟨I, Or.inl rfl, Or.inl (by rw [ed, eb, ec, ea])⟩
        · exact absurd ⟨m, w⟩ c1
      · rcases m1 with ⟨h, -⟩ | ⟨m, l, w, z1, z2, pm1⟩
        · exact absurd ⟨n1, w1⟩ h
        · obtain rfl : m = n1 := rdy_1 w.1 w1.1 w.2.2.1 w1.2.2.1
          obtain rfl : l = l1 := nI_inj (by omega) (by omega) (z2.symm.trans y2)
          rw [ea] at pc1
          rw [eb] at pm1
          exact ⟨I, Or.inl rfl, Or.inr ⟨_, _, w1, y3, Pt.one w1.1 y1 y2 pc1 pm1⟩⟩
    · exact absurd ⟨m, w⟩ c0
  · rcases m0 with ⟨h, -⟩ | ⟨m, l, w, z1, z2, pm0⟩
    · exact absurd ⟨n0, w0⟩ h
    · obtain rfl : m = n0 := rdy_1 w.1 w0.1 w.2.2.1 w0.2.2.1
      obtain rfl : l = l0 := nI_inj (by omega) (by omega) (z2.symm.trans x2)
      rcases a1 with ⟨c1, ec⟩ | ⟨n1, l1, w1, y1, y2, y3, pc1⟩
      · rcases m1 with ⟨-, ed⟩ | ⟨m1, l1, w1, -⟩
        · rw [ec] at pm0
          exact ⟨K0, Or.inr ⟨_, _, w0, x3, Pt.one w0.1 x1 x2 pc0 pm0⟩, Or.inl ed⟩
        · exact absurd ⟨m1, w1⟩ c1
      · rcases m1 with ⟨h, -⟩ | ⟨m1, l2, w2, v1, v2, pm1⟩
        · exact absurd ⟨n1, w1⟩ h
        · obtain rfl : m1 = n1 := rdy_1 w2.1 w1.1 w2.2.2.1 w1.2.2.1
          obtain rfl : l2 = l1 := nI_inj (by omega) (by omega) (v2.symm.trans y2)
          have q0 := w0.2.1
          have q1 := w1.2.1
          obtain ⟨I1, p1, p2⟩ := Pt.two hs q0 q1 x1 y1 x2 y2 pc0 pc1 pm0 pm1
          have ge : ∀ k, k / 3 = 1 → GE A I I1 k := fun k hk => GE.pt (by omega) p1
          have ho : ouT A I1 t = ouT A I t := by
            unfold ouT
            rw [p1.2.1 125 (by omega) (by omega), p1.2.1 130 (by omega) (by omega)]
          refine ⟨I1, Or.inr ⟨_, _, w0, x3, p1⟩, Or.inr ⟨m1, l2, (WoP.ge (by omega) ge vn1 m1).mpr w1, ?_, ?_⟩⟩
          · rw [(ge m1 q1).2.1 117 (by omega) (by omega), (ge m1 q1).nx (vn1 m1 q1)]; exact y3
          · rw [(ge m1 q1).2.1 113 (by omega) (by omega), (ge m1 q1).nx (vn1 m1 q1), ho]; exact p2
end
