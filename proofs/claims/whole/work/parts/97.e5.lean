section
variable {R : Nat → Nat → Nat} {A : Nat → Nat} {I J K : St} {n t g b c : Nat}
theorem i_read (hs : Sx R A) (h : Inv A I c) (hb : b ≤ 16) (rd : RdE A I J K b) : Inv A K c := by
  rcases rd with ⟨e1, e2⟩ | ⟨t, htb, h0, e1, e2⟩ | ⟨t, key, n, htb, hk, hn, hr, h0, bJ, j7, j9, bK, k6, k9⟩
  · rw [e2]; exact h
  · rw [e2, e1]
    exact i_st2 hs h (s := 4) (by omega) (by rw [h0]; decide) (by omega) (by omega) rfl (fun e => by omega) (fun e => by omega)
  have ht : t < 16 := by omega
  obtain ⟨e, he, hep⟩ := (h.2.2.1.2 n hn).1
  have hc6 := h.2.2.1.1.2
  have ep : ¬ I (A 113) n = -1 := by rw [hep]; exact nI_nm1 (by omega)
  have r : ∀ p, p < 131 → p ≠ 47 + 4 * t → p ≠ 49 + 4 * t → p ≠ 126 → p ≠ 129 → K (A p) = I (A p) := fun p q1 q2 q3 q4 q5 => by rw [bK p q1 (by omega), bJ p q1 (by omega)]
  have r7 : K (A (47 + 4 * t)) = upd (I (A (47 + 4 * t))) key 1 := by rw [bK _ (by omega) (by omega), j7]
  have r9 : K (A (49 + 4 * t)) = J (A (49 + 4 * t)) := bK _ (by omega) (by omega)
  have b6 : ∀ k, k < 32 → bt (K (A 126) t) k = (bt (I (A 126) t) k || decide (k = key)) := fun k q => by rw [k6, upd_s, bs _ (by omega) q]
  have rdK : ∀ u, u ≠ t → ∀ g, RdG A K u g = RdG A I u g := fun u hu g => by
    unfold RdG
    rw [k6, upd_n _ _ hu]
  have rdT : ∀ g, g < 2 → (RdG A K t g ↔ (RdG A I t g ∨ g = key / 4)) := fun g hg => by
    constructor
    · rintro ⟨k, q1, q2, q3⟩
      rw [b6 k (by omega)] at q3
      rcases Bool.or_eq_true_iff.mp q3 with w | w
      · exact Or.inl ⟨k, q1, q2, w⟩
      · have := of_decide_eq_true w
        exact Or.inr (by omega)
    · rintro (⟨k, q1, q2, q3⟩ | e)
      · exact ⟨k, q1, q2, by rw [b6 k (by omega), q3]; rfl⟩
      · exact ⟨key, by omega, by omega, by rw [b6 key (by omega)]; simp⟩
  have k129 : ∀ j, j ≠ 2 * t + key / 4 → K (A 129) j = I (A 129) j := fun j hj => by
    rcases k9 with ⟨-, e⟩ | ⟨-, e⟩
    · rw [e]
    · rw [e, upd_n _ _ hj]
  refine h.data (fun p hp hP => r p hp (fun e => hP (Or.inl ⟨t, ht, by omega⟩)) (fun e => hP (Or.inl ⟨t, ht, by omega⟩)) (fun e => hP (Or.inr (by omega))) (fun e => hP (Or.inr (by omega)))) (fun u hu => ?_) (fun u hu => Or.inl (by rw [r 127 (by omega) (by omega) (by omega) (by omega) (by omega)]))
  obtain ⟨q1, q2, q3, q4⟩ := h.1.2 u hu
  by_cases e : u = t
  · subst e
    refine ⟨?_, ?_, fun k hk8 => ?_, fun g hg => ?_⟩
    · rw [r _ (by omega) (by omega) (by omega) (by omega) (by omega), r 125 (by omega) (by omega) (by omega) (by omega) (by omega)]; exact q1
    · rw [r _ (by omega) (by omega) (by omega) (by omega) (by omega), r 130 (by omega) (by omega) (by omega) (by omega) (by omega)]; exact q2
    · obtain ⟨w1, w2⟩ := q3 k hk8
      rw [r (48 + 4 * u) (by omega) (by omega) (by omega) (by omega) (by omega), r 127 (by omega) (by omega) (by omega) (by omega) (by omega), r 128 (by omega) (by omega) (by omega) (by omega) (by omega), b6 k (by omega), r7]
      refine ⟨?_, w2⟩
      by_cases e2 : k = key
      · subst e2
        rw [upd_s]
        refine ⟨fun q => absurd q (by decide), fun q => ?_⟩
        simp at q
      · rw [upd_n _ _ e2]
        simp only [e2, decide_false, Bool.or_false]
        exact w1
    · rw [r9]
      obtain ⟨w1, w2⟩ := q4 g hg
      rcases j9 with ⟨y1, y2⟩ | ⟨y1, y2⟩
      · have x9 : K (A 129) = I (A 129) := by
          rcases k9 with ⟨-, e⟩ | ⟨e, -⟩
          · exact e
          · exact absurd y1 e
        have hg2 : RdG A K u g ↔ RdG A I u g := ⟨fun q => ((rdT g hg).mp q).elim id (fun e => by rw [e]; exact y1), fun q => (rdT g hg).mpr (Or.inl q)⟩
        rw [y2, x9]
        exact ⟨⟨fun q w => (w1.mp q) (hg2.mp w), fun q => w1.mpr (fun w => q (hg2.mpr w))⟩, fun q => w2 (hg2.mp q)⟩
      · have x9 : K (A 129) = upd (I (A 129)) (2 * u + key / 4) (I (A 113) n) := by
          rcases k9 with ⟨e, -⟩ | ⟨-, e⟩
          · exact absurd e y1
          · exact e
        rw [y2, x9]
        by_cases e2 : g = key / 4
        · rw [e2, upd_s, upd_s]
          refine ⟨⟨fun q => absurd q ep, fun q => absurd ((rdT (key / 4) (by omega)).mpr (Or.inr rfl)) q⟩, fun _ => rfl⟩
        · rw [upd_n _ _ e2, upd_n _ _ (by omega)]
          have hg2 : RdG A K u g ↔ RdG A I u g := ⟨fun q => ((rdT g hg).mp q).elim id (fun e => absurd e e2), fun q => (rdT g hg).mpr (Or.inl q)⟩
          exact ⟨⟨fun q w => (w1.mp q) (hg2.mp w), fun q => w1.mpr (fun w => q (hg2.mpr w))⟩, fun q => w2 (hg2.mp q)⟩
  · refine ⟨?_, ?_, fun k hk8 => ?_, fun g hg => ?_⟩
    · rw [r _ (by omega) (by omega) (by omega) (by omega) (by omega), r 125 (by omega) (by omega) (by omega) (by omega) (by omega)]; exact q1
    · rw [r _ (by omega) (by omega) (by omega) (by omega) (by omega), r 130 (by omega) (by omega) (by omega) (by omega) (by omega)]; exact q2
    · rw [r (47 + 4 * u) (by omega) (by omega) (by omega) (by omega) (by omega), r (48 + 4 * u) (by omega) (by omega) (by omega) (by omega) (by omega), r 127 (by omega) (by omega) (by omega) (by omega) (by omega), r 128 (by omega) (by omega) (by omega) (by omega) (by omega), k6, upd_n _ _ e]
      exact q3 k hk8
    · rw [rdK u e g, r (49 + 4 * u) (by omega) (by omega) (by omega) (by omega) (by omega), k129 _ (by omega)]
      exact q4 g hg
/-- a ready node leads, and its lease holds -/
theorem rdy_R (hg : g < 2) (hn : n < 6) (h : rdy A I g = nI n) : Rdy A I n ∧ n / 3 = g := by
  rcases rdy_c A I hg with ⟨r1, r2⟩ | ⟨m, r1, hm, r3, r4⟩
  · rw [r1] at h; exact absurd h.symm (nI_nm1 (by omega))
  · have e := rdy_1 hn hm h r3
    rw [e]; exact ⟨r4, r1⟩
theorem Inv.rd (h : Inv A I c) (hn : n < 6) (r : Rdy A I n) : ¬ I (A 116) n = 0 ∧ aL A I n ∧ (I (A 110) 1).toInt < (I (A 117) n).toInt := by
  obtain ⟨⟨r1, r2⟩, r3⟩ := r
  obtain ⟨n1, n2⟩ := (h.2.1.2.1 n hn).1
  have hl := Lat_t h.2.1.1 (h.2.1.2.1 n hn).1
  rw [ile] at r2
  exact ⟨r1, ⟨hn, r1⟩, by omega⟩
theorem Inv.nx0 (h : Inv A I c) (hn : n < 6) : 0 ≤ (nx A I n).toInt := by
  obtain ⟨ns, eb, eo⟩ := h.2.1.2.1 n hn
  rw [nx_t h.2.1.1 ns eb]
  exact (nxI_b h.2.1.1 ns eb).1
theorem ck_m (h60 : n < 6) (vn : VN A I n) {w o : Int32} {i : Nat} (hi : i < lnN A I n) (hC : Ck w o (aV A I n i)) : Mt A I n w o i := by
  have := vn.s.2.2.2
  unfold aV at hC
  rw [if_pos (show i < 60 by omega)] at hC
  exact ⟨ieq.mpr hC.1, ieq.mpr hC.2⟩
theorem i_ou1 (h : Inv A I c) (ht : t < 16) (htb : nI t < I (A 110) 16) (hg : g < 2) (h3 : ¬ I (A 125) t < 3) (ou : Ou1 A I K t g) : Inv A K c ∧ K (A 125) = I (A 125) ∧ K (A 110) = I (A 110) := by
  rcases ou with e | ⟨n, ln, w, hle, p⟩
  · rw [e]; exact ⟨h, rfl, rfl⟩
  · refine ⟨?_, p.2.1 125 (by omega) (by have := w.1; omega), p.2.1 110 (by omega) (by have := w.1; omega)⟩
    have hR := rdy_R hg w.1 w.2.2.1
    have hd := h.2.2.2.2 t ht
    refine h.pt p (h.rd w.1 hR.1).1 (h.nx0 w.1) hle ?_ (fun q => absurd rfl q) (Or.inr ⟨t, ht, rfl, htb, fun e => h3 (by rw [e]; decide), fun e => absurd e (by decide), fun e => by rcases e with e | e <;> exact absurd e (by decide)⟩)
    unfold ouT
    have hT := h.2.1.1.2.2.1
    obtain ⟨d1, d2, d3, d4, d5, d6, d7⟩ := hd
    by_cases q : I (A 125) t = 3
    · rw [if_pos q]; exact ⟨by omega, by omega⟩
    · rw [if_neg q, tm1]; exact ⟨by omega, by omega⟩
theorem PE1.base9 {X : St} {ln : Nat} {ep st kd ow ou : Int32} (hn : n < 6) (h : PE1 A I K n ln ep st kd ow ou) (hr : ∀ p, (5 + 7 * n ≤ p ∧ p < 11 + 7 * n) ∨ p = 118 ∨ (120 ≤ p ∧ p < 125) → X (A p) = I (A p)) : PE1 A X K n ln ep st kd ow ou := by
  unfold PE1 at h ⊢
  rw [hr (5 + 7 * n) (by omega), hr (6 + 7 * n) (by omega), hr (7 + 7 * n) (by omega), hr (8 + 7 * n) (by omega), hr (9 + 7 * n) (by omega), hr (10 + 7 * n) (by omega), hr 118 (by omega), hr 120 (by omega), hr 121 (by omega), hr 122 (by omega), hr 123 (by omega), hr 124 (by omega)]
  exact h
theorem i_prepared (hs : Sx R A) (h : Inv A I c) (ht : t < 16) (htb : nI t < I (A 110) 16) (h1 : I (A 125) t = 1) (pr : PrE A I K t) : Inv A K c := by
  have n3 : ¬ I (A 125) t = 3 := by rw [h1]; decide
  obtain ⟨d1, d2, d3, d4, d5, d6, d7⟩ := h.2.2.2.2 t ht
  rcases pr with ⟨r, rT, r5, -⟩ | ⟨n0, n1, p1, ln, hn0, hn1, z0, z1, -, -, -, -, -, hle, r, rT, r5, pe⟩
  · exact i_st h ht (s := 4) n3 (by omega) (by omega) (fun e => by omega) (fun e => by omega) r rT r5
  · obtain ⟨X, hX⟩ : ∃ X, X = up2 (up2 I (A (46 + 4 * t)) 3 2) (A 125) t 2 := ⟨_, rfl⟩
    have hw : ¬ I (A 127) t = 0 := d4 (Or.inl h1)
    have iX : Inv A X c := by rw [hX]; exact i_st2 hs h ht (s := 2) n3 (by omega) (by omega) rfl (fun e => by omega) (fun _ => hw)
    have x1 : ∀ p, p < 131 → p ≠ 46 + 4 * t → p ≠ 125 → X (A p) = I (A p) := fun p q1 q2 q3 => by rw [hX, V_row hs _ _ _ (by omega) q1 q3, V_row hs _ _ _ (by omega) q1 q2]
    have x2 : X (A (46 + 4 * t)) = upd (I (A (46 + 4 * t))) 3 2 := by rw [hX, V_row hs _ _ _ (by omega) (by omega) (by omega), V_same]
    have x3 : X (A 125) = upd (I (A 125)) t 2 := by rw [hX, V_same, V_row hs _ _ _ (by omega) (by omega) (by omega)]
    obtain ⟨R0, g0⟩ := rdy_R (g := 0) (by omega) hn0 z0
    obtain ⟨l1, l2, l3⟩ := h.rd hn0 R0
    have pt : Pt A X K n0 ln (X (A 113) n0) (imax (nx A I n0) (I (A 121) (60 * n1 + p1))) 2 (nI t) (-1) := by
      refine ⟨hn0, fun p hp hP => ?_, ?_⟩
      · by_cases e : p = 46 + 4 * t
        · rw [e, rT, x2]
        · by_cases e2 : p = 125
          · rw [e2, r5, x3]
          · rw [x1 p hp e e2]; exact r p hp e e2 (by omega) (by omega) (by omega)
      · rw [x1 113 (by omega) (by omega) (by omega)]
        exact pe.base9 hn0 (fun p hp => x1 p (by omega) (by omega) (by omega))
    have hno : ∀ i, i < aN A I n0 → ¬ Ck 2 (nI t) (aV A I n0 i) := by
      have lo := d3 h1
      unfold LoA at lo
      rw [← g0] at lo
      exact Lo.none h.2.2.2.1.1 h.2.2.2.1.2.2.1 l2 l3 lo
    have hm := mx_s (nx A I n0).toInt (I (A 121) (60 * n1 + p1)).toInt
    have h0 := h.nx0 hn0
    refine iX.pt pt ?_ (by rw [imax_t]; omega) ?_ ⟨by rw [tm1]; omega, ?_⟩ (fun _ => rfl) (Or.inr ⟨t, ht, rfl, ?_, ?_, fun _ => ?_, fun _ => ?_⟩)
    · rw [x1 116 (by omega) (by omega) (by omega)]; exact l1
    · rw [x1 117 (by omega) (by omega) (by omega)]; exact hle
    · rw [tm1, x1 110 (by omega) (by omega) (by omega)]
      have := h.2.1.1.2.2.1
      omega
    · rw [x1 110 (by omega) (by omega) (by omega)]; exact htb
    · rw [x3, upd_s]; decide
    · rw [x3, upd_s]; decide
    · rintro ⟨j, hj, hm1, hm2⟩
      rw [x1 118 (by omega) (by omega) (by omega)] at hj
      rw [x1 122 (by omega) (by omega) (by omega)] at hm1
      rw [x1 123 (by omega) (by omega) (by omega)] at hm2
      have hj : j < lnN A I n0 := hj
      have h60 := (h.1.1.2 n0 hn0).2.2.s.2.2.2
      refine hno j (by unfold aN; rw [if_pos hn0]; exact hj) ?_
      unfold aV
      rw [if_pos (show j < 60 by omega)]
      exact ⟨by show (I (A 122) (60 * n0 + j)).toInt = _; rw [hm1], by show (I (A 123) (60 * n0 + j)).toInt = _; rw [hm2]⟩
theorem i_committing (hs : Sx R A) (h : Inv A I c) (ht : t < 16) (h2 : I (A 125) t = 2) (co : CoE A I J K t) : Inv A K c := by
  have n3 : ¬ I (A 125) t = 3 := by rw [h2]; decide
  obtain ⟨d1, d2, d3, d4, d5, d6, d7⟩ := h.2.2.2.2 t ht
  have hw : ¬ I (A 127) t = 0 := d4 (Or.inr h2)
  rcases co with ⟨-, e⟩ | ⟨g, n, s, hg, hn, hr, hgu, hno, hss, eJ, eK⟩ | ⟨g, n, p, hg, hn, hr, hgu, hp, hm, hk, he, eJ, eK⟩
  · rw [e]; exact h
  · rw [eK, eJ]
    rcases hss with ⟨e, -⟩ | ⟨e, u0, u1⟩
    · exact i_st2 hs h ht (s := 4) n3 (by omega) (by omega) e (fun e => by omega) (fun e => by omega)
    · refine i_st2 hs h ht (s := 1) n3 (by omega) (by omega) e (fun _ => ?_) (fun _ => hw)
      obtain ⟨R0, g0⟩ := rdy_R hg hn hr
      obtain ⟨l1, l2, l3⟩ := h.rd hn R0
      obtain ⟨-, i, hi, hie⟩ := R0
      have vn := (h.1.1.2 n hn).2.2
      obtain ⟨v1, v2, v3, v4⟩ := vn.s
      have hi2 : i < knN A I n := hi
      have lo := Lo.lost (C := Ck 2 (nI t)) (i := i) h.2.2.2.1.1 h.2.2.2.1.2.2.1 l2 l3 (h.2.2.2.1.2.1 n) (by unfold aK; rw [if_pos hn]; exact hi) (by
        unfold aV aE
        rw [if_pos (show i < 60 by omega), if_pos hn]
        show (I (A 120) (60 * n + i)).toInt = _
        rw [hie]) (fun j hj hC => by
          unfold aN at hj
          rw [if_pos hn] at hj
          exact hno ⟨j, hj, ck_m hn vn hj hC⟩)
      rw [g0, hgu.mpr u0] at lo
      exact lo
  · obtain ⟨X, hX⟩ : ∃ X, X = up2 (up2 I (A (46 + 4 * t)) 3 3) (A (46 + 4 * t)) 4 (I (A 121) (60 * n + p)) := ⟨_, rfl⟩
    have k1 : ∀ p, p < 131 → p ≠ 46 + 4 * t → p ≠ 125 → p ≠ 130 → K (A p) = I (A p) := fun q q1 q2 q3 q4 => by rw [eK, V_row hs _ _ _ (by omega) q1 q4, V_row hs _ _ _ (by omega) q1 q3, eJ, V_row hs _ _ _ (by omega) q1 q2, V_row hs _ _ _ (by omega) q1 q2]
    have k2 : K (A (46 + 4 * t)) = upd (upd (I (A (46 + 4 * t))) 3 3) 4 (I (A 121) (60 * n + p)) := by rw [eK, V_row hs _ _ _ (by omega) (by omega) (by omega), V_row hs _ _ _ (by omega) (by omega) (by omega), eJ, V_same, V_same]
    have k5 : K (A 125) = upd (I (A 125)) t 3 := by rw [eK, V_row hs _ _ _ (by omega) (by omega) (by omega), V_same, eJ, V_row hs _ _ _ (by omega) (by omega) (by omega), V_row hs _ _ _ (by omega) (by omega) (by omega)]
    have k0 : K (A 130) = upd (I (A 130)) t (I (A 121) (60 * n + p)) := by rw [eK, V_same, V_row hs _ _ _ (by omega) (by omega) (by omega), eJ, V_row hs _ _ _ (by omega) (by omega) (by omega), V_row hs _ _ _ (by omega) (by omega) (by omega)]
    refine h.tx (fun q hq hP => k1 q hq (fun e => hP (Or.inr (Or.inr ⟨t, ht, e⟩))) (fun e => hP (Or.inl e)) (fun e => hP (Or.inr (Or.inl e)))) (fun u hu => ?_) (fun u hu => ?_)
    · by_cases e : u = t
      · subst e
        rw [k2, k5, k0, upd_s, upd_s, upd_s, upd_n _ _ (show 3 ≠ 4 by omega), upd_s]
        exact ⟨rfl, rfl⟩
      · rw [k1 _ (by omega) (by omega) (by omega) (by omega), k5, k0, upd_n _ _ e, upd_n _ _ e]
        exact ⟨(h.1.2 u hu).1, (h.1.2 u hu).2.1⟩
    · by_cases e : u = t
      · subst e
        refine Or.inr ⟨n3, 3, by omega, by omega, by rw [k5, upd_s]; rfl, fun e => by omega, fun e => by omega, Or.inr ⟨rfl, hw, ?_, ?_⟩⟩
        · rw [k0, upd_s]; exact ((h.2.1.2.1 n hn).2.1 p hp).1
        · rw [k0, upd_s]; exact ((h.2.2.1.2 n hn).2.2.2 p hp).2.1
      · exact Or.inl ⟨by rw [k5, upd_n _ _ e], by rw [k0, upd_n _ _ e]⟩
theorem i_step (hs : Sx R A) (h : Inv A I c) (hb : b ≤ 16) (hbe : I (A 110) 16 = nI b) (st : StE A I J K b) : Inv A K c := by
  rcases st with ⟨-, e⟩ | ⟨t, htb, ⟨e, p⟩ | ⟨e, p⟩ | ⟨e, I1, p0, p1⟩⟩
  · rw [e]; exact h
  · exact i_prepared hs h (by omega) (by rw [hbe]; exact nI_lt htb (by omega)) e p
  · exact i_committing hs h (by omega) e p
  · have htb2 : nI t < I (A 110) 16 := by rw [hbe]; exact nI_lt htb (by omega)
    obtain ⟨i1, e5, e0⟩ := i_ou1 h (by omega) htb2 (by omega) e p0
    exact (i_ou1 i1 (by omega) (by rw [e0]; exact htb2) (by omega) (by rw [e5]; exact e) p1).1
theorem i_cm1 (h : Inv A I c) (ht : t < 16) (htb : nI t < I (A 110) 16) (hg : g < 2) {kd : Int32} (hk : kd = 1 ∨ kd = 2) (h5 : I (A 125) t = kd) (no : ∀ n, n < 6 → n / 3 = g → ¬ HasE A I n kd (nI t)) (cm : Cm1 A I K t g kd) : Inv A K c ∧ K (A 125) = I (A 125) ∧ K (A 110) = I (A 110) := by
  rcases cm with e | ⟨n, ln, w, p⟩
  · exact ⟨h.rows e, e 125 (by omega) (fun q => q), e 110 (by omega) (fun q => q)⟩
  · refine ⟨?_, p.2.1 125 (by omega) (by have := w.1; omega), p.2.1 110 (by omega) (by have := w.1; omega)⟩
    have hR := rdy_R hg w.1 w.2.2.1
    have hT := h.2.1.1.2.2.1
    refine h.pt p (h.rd w.1 hR.1).1 (h.nx0 w.1) w.le9 ⟨by rw [tm1]; omega, by rw [tm1]; omega⟩ (fun _ => rfl) (Or.inr ⟨t, ht, rfl, htb, ?_, fun e => ?_, fun e => ?_⟩)
    · rw [h5]; rcases hk with q | q <;> rw [q] <;> decide
    · rw [h5, e]; decide
    · exact no n w.1 w.2.1
theorem i_commit (hs : Sx R A) (h : Inv A I c) (hb : b ≤ 16) (hbe : I (A 110) 16 = nI b) (cm : CmE A I J K b) : Inv A K c := by
  rcases cm with ⟨-, e⟩ | ⟨t, s, htb, h0, hs2, eJ, eK⟩ | ⟨t, s, X, Y, htb, h0, hw, hs2, ⟨bX, x1, x2, x3⟩, c0, c1⟩
  · rw [e]; exact h
  · rw [eK, eJ]
    have n3 : ¬ I (A 125) t = 3 := by rw [h0]; decide
    rcases hs2 with e | ⟨e, -⟩
    · exact i_st2 hs h (s := 4) (by omega) n3 (by omega) (by omega) e (fun e => by omega) (fun e => by omega)
    · exact i_st2 hs h (s := 3) (by omega) n3 (by omega) (by omega) e (fun e => by omega) (fun e => by omega)
  · have ht : t < 16 := by omega
    have n3 : ¬ I (A 125) t = 3 := by rw [h0]; decide
    obtain ⟨d1, d2, d3, d4, d5, d6, d7⟩ := h.2.2.2.2 t ht
    have no := d2 h0
    have rX : ∀ p, 110 ≤ p → p < 131 → p ≠ 125 → X (A p) = I (A p) := fun p q1 q2 q3 => bX p q2 (fun h => by
      rcases h with h | ⟨u, h1, h2⟩
      · exact q3 h
      · omega)
    have iX : Inv A X c := by
      refine h.tx (fun p hp hP => bX p hp (fun q => by
        rcases q with q | q
        · exact hP (Or.inl q)
        · exact hP (Or.inr (Or.inr q)))) (fun u hu => ⟨(x1 u hu).1, ?_⟩) (fun u hu => ?_)
      · rw [(x1 u hu).2, rX 130 (by omega) (by omega) (by omega)]; exact (h.1.2 u hu).2.1
      · by_cases e : u = t
        · subst e
          have e130 : X (A 130) u = I (A 130) u := by rw [rX 130 (by omega) (by omega) (by omega)]
          have lo : LoA A I u := Or.inl (fun m i hm hi hC => by
            have hm6 : m < 6 := by omega
            unfold aN at hi
            rw [if_pos hm6] at hi
            exact no m i hm6 hi (ck_m hm6 (h.1.1.2 m hm6).2.2 hi hC).2)
          rcases hs2 with q | q
          · exact Or.inr ⟨n3, 1, by omega, by omega, by rw [x3, q]; rfl, fun _ => lo, fun _ => hw, Or.inl e130⟩
          · exact Or.inr ⟨n3, 2, by omega, by omega, by rw [x3, q]; rfl, fun e => by omega, fun _ => hw, Or.inl e130⟩
        · rcases x2 u hu e with q | ⟨q1, q2⟩
          · exact Or.inl ⟨q, by rw [rX 130 (by omega) (by omega) (by omega)]⟩
          · exact Or.inr ⟨by rw [q1]; decide, 4, by omega, by omega, by rw [q2]; rfl, fun e => by omega, fun e => by omega, Or.inl (by rw [rX 130 (by omega) (by omega) (by omega)])⟩
    have noX : ∀ n, n < 6 → ¬ HasE A X n s (nI t) := fun n hn ⟨j, hj, hm1, hm2⟩ => by
      rw [rX 118 (by omega) (by omega) (by omega)] at hj
      rw [rX 123 (by omega) (by omega) (by omega)] at hm2
      exact no n j hn hj hm2
    have tbX : nI t < X (A 110) 16 := by rw [rX 110 (by omega) (by omega) (by omega), hbe]; exact nI_lt htb (by omega)
    obtain ⟨iY, y5, y0⟩ := i_cm1 iX ht tbX (by omega) hs2 x3 (fun n hn _ => noX n hn) c0
    refine (i_cm1 iY ht (by rw [y0]; exact tbX) (by omega) hs2 (by rw [y5]; exact x3) (fun n hn hn3 => ?_) c1).1
    have ge : GE A X Y n := by
      rcases c0 with q | ⟨m, ln, w, q⟩
      · exact GE.of (fun p hp hP => q p hp (fun z => z))
      · have := w.2.1
        exact GE.pt (by omega) q
    rw [ge.has (iX.1.1.2 n hn).2.2]
    exact noX n hn
end
