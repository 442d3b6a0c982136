section
variable {R : Nat → Nat → Nat} {A : Nat → Nat} {I J K : St} {n t g b : Nat}
theorem WfP.le9 (h : WfP A I t g n) : ¬ I (A 117) n ≤ nx A I n := fun e => by
  have hb := h.2.2.2.2
  unfold bar at hb
  by_cases c : I (A 118) n = 60
  · rw [cif_t c] at hb; exact absurd hb (by decide)
  · rw [cif_f c, cif_t e] at hb; exact absurd hb (by decide)
/-- a first entry in the group g, or nothing -/
def Cm1 (A : Nat → Nat) (I K : St) (t g : Nat) (kd : Int32) : Prop := Bt A I K (fun _ => False) ∨ ∃ n ln, WfP A I t g n ∧ Pt A I K n ln (I (A 113) n) (nx A I n) kd (nI t) (-1)
/-- t's state is s, and some that were ACTIVE are ABORTED -/
def CmX (A : Nat → Nat) (I X : St) (t : Nat) (s : Int32) : Prop := Bt A I X (fun p => p = 125 ∨ ∃ u, u < 16 ∧ p = 46 + 4 * u) ∧ (∀ u, u < 16 → X (A (46 + 4 * u)) 3 = X (A 125) u ∧ X (A (46 + 4 * u)) 4 = I (A (46 + 4 * u)) 4) ∧ (∀ u, u < 16 → u ≠ t → X (A 125) u = I (A 125) u ∨ (I (A 125) u = 0 ∧ X (A 125) u = 4)) ∧ X (A 125) t = s
/-- what a commit does -/
def CmE (A : Nat → Nat) (I J K : St) (b : Nat) : Prop := (J = I ∧ K = I) ∨ (∃ t s, t < b ∧ I (A 125) t = 0 ∧ (s = 4 ∨ (s = 3 ∧ I (A 127) t = 0)) ∧ J = up2 I (A (46 + 4 * t)) 3 s ∧ K = up2 J (A 125) t s) ∨
  ∃ t s X Y, t < b ∧ I (A 125) t = 0 ∧ ¬ I (A 127) t = 0 ∧ (s = 1 ∨ s = 2) ∧ CmX A I X t s ∧ Cm1 A X Y t 0 s ∧ Cm1 A Y K t 1 s
theorem e_commit (hs : Sx R A) (sm : Sim A I) (nu : Num A I) (hb : b ≤ 16) (hbe : I (A 110) 16 = nI b) (w8 : ∀ t, t < 16 → ∀ i, 8 ≤ i → bt (I (A 127) t) i = false) (x : Int32) : ∃ v J K, F_Store_commit R (A 0) x I = some (v, J) ∧ F_Model_commit R (A 110) x J = some (v, K) ∧ CmE A I J K b := by
  have RS := hs.all
  rcases in_tx R sm.1.1 hb hbe x with ⟨h1, h2⟩ | ⟨t, htb, rfl, h1, h2⟩
  · refine ⟨-1, I, I, ?_, ?_, Or.inl ⟨rfl, rfl⟩⟩
    · unfold F_Store_commit
      rw [h1, ob_s, if_pos rfl]
    · unfold F_Model_commit
      rw [h2, ob_s, if_pos rfl]
  have ht : t < 16 := by omega
  have cc := C_cm1 hs sm ht h1
  have goM : ∀ S, MR A I S → F_Model_commit R (A 110) (nI t) S = if I (A 125) t = 0 then cif (Lk A I t) (some (-3, S)) (cif (Lst A I t 0 ∨ Lst A I t 1) (some (4, up2 S (A 125) t 4)) (cif (WrG A I t 0 ∨ WrG A I t 1) (if 0 ≤ blk A I t then cif (MW A I t b) (some (-4, S)) (B_Model_commit_161 R 100 (A 110) (nI t) 0 S) else some (blk A I t, S)) (some (3, up2 S (A 125) t 3)))) else some (-2, S) := by
    intro S mr
    rw [M_cm1 hs (fun n hn => (sm.1.2 n hn).2.2.cg mr.bt9 (by omega) (by omega)) (mr.num9 nu) hb htb (by rw [mr 110 (by omega) (by omega)]; exact hbe), mr.lk9 t, mr.lst9 t 0, mr.lst9 t 1, mr.blk9 t, mr.mw9 t b]
    rw [mr 125 (by omega) (by omega), mr 127 (by omega) (by omega)]
    by_cases q : WrG A I t 0 ∨ WrG A I t 1
    · rw [cif_t q, cif_f (P := I (A 127) t = 0) (fun e => (nW (w8 t ht)).mp e q)]
    · rw [cif_f q, cif_t (P := I (A 127) t = 0) ((nW (w8 t ht)).mpr q)]
  have mrT : ∀ v, MR A I (up2 I (A (46 + 4 * t)) 3 v) := fun v p q1 q2 => V_row hs _ _ _ (by omega) q2 (by omega)
  have mrI : MR A I I := fun p _ _ => rfl
  by_cases c0 : I (A 125) t = 0
  rotate_left
  · exact ⟨-2, I, I, by rw [cc, if_neg c0], by rw [goM I mrI, if_neg c0], Or.inl ⟨rfl, rfl⟩⟩
  rw [if_pos c0] at cc
  simp only [if_pos c0] at goM
  by_cases c1 : Lk A I t
  · exact ⟨-3, I, I, by rw [cc, cif_t c1], by rw [goM I mrI, cif_t c1], Or.inl ⟨rfl, rfl⟩⟩
  by_cases c2 : Lst A I t 0 ∨ Lst A I t 1
  · exact ⟨4, _, _, by rw [cc, cif_f c1, cif_t c2], by rw [goM _ (mrT 4), cif_f c1, cif_t c2], Or.inr (Or.inl ⟨t, 4, htb, c0, Or.inl rfl, rfl, rfl⟩)⟩
  by_cases c3 : WrG A I t 0 ∨ WrG A I t 1
  rotate_left
  · exact ⟨3, _, _, by rw [cc, cif_f c1, cif_f c2, cif_f c3], by rw [goM _ (mrT 3), cif_f c1, cif_f c2, cif_f c3], Or.inr (Or.inl ⟨t, 3, htb, c0, Or.inr ⟨rfl, (nW (w8 t ht)).mpr c3⟩, rfl, rfl⟩)⟩
  have c86 := C_cm2 hs sm nu hb htb hbe c1
  rw [cif_f c1, cif_f c2, cif_t c3, c86] at cc
  simp only [cif_f c1, cif_f c2, cif_t c3] at goM
  by_cases c4 : 0 ≤ blk A I t
  rotate_left
  · exact ⟨blk A I t, I, I, by rw [cc, if_neg c4], by rw [goM I mrI, if_neg c4], Or.inl ⟨rfl, rfl⟩⟩
  rw [if_pos c4] at cc
  simp only [if_pos c4] at goM
  by_cases c5 : MW A I t b
  · exact ⟨-4, I, I, by rw [cc, cif_t c5], by rw [goM I mrI, cif_t c5], Or.inl ⟨rfl, rfl⟩⟩
  rw [cif_f c5] at cc
  simp only [cif_f c5] at goM
  obtain ⟨P, hPe⟩ : ∃ P : Prop, P = (Us A I t 0 ∧ Us A I t 1) := ⟨_, rfl⟩
  -- the class: readers aborted
  obtain ⟨I1, e1, la⟩ := C_ab1 hs sm ht hb hbe b 0 100 I (by omega) (by omega) ⟨fun p hp hP => rfl, fun u h => absurd h (Nat.not_lt_zero u)⟩
  rw [show nI 0 = (0 : Int32) from rfl] at e1
  have rowt : I1 (A (46 + 4 * t)) = I (A (46 + 4 * t)) := by rw [la.2 t htb ht, cif_f (P := HR A I t t) (fun h => h.1 rfl)]
  have b1 : Bt A I I1 (fun p => ∃ u, u < 16 ∧ u ≠ t ∧ p = 46 + 4 * u) := fun p hp hP => by
    by_cases e : p = 46 + 4 * t
    · rw [e]; exact rowt
    · exact la.1 p hp (fun ⟨u, q1, q2, q3⟩ => hP ⟨u, q2, fun e' => e (by rw [q3, e']), q3⟩)
  have mr1 : MR A I I1 := fun p q1 q2 => b1 p q2 (fun ⟨u, w1, w2, w3⟩ => by omega)
  have sa1 : SA A I1 := sm.1.cg b1 ⟨fun ⟨u, w1, w2, w3⟩ => by omega, fun p q1 q2 ⟨u, w1, w2, w3⟩ => by omega⟩ (fun p ⟨u, w1, w2, w3⟩ => by omega)
  have sx1 : SX A I1 t := (sm.2 t ht).cg b1 ht (fun d hd ⟨u, w1, w2, w3⟩ => by omega) (fun p q1 q2 ⟨u, w1, w2, w3⟩ => by omega)
  have nu1 := mr1.num9 nu
  have vnI : ∀ g n, g < 2 → n / 3 = g → VN A I n := fun g n hg h => (sm.1.2 n (by omega)).2.2
  have okI : ∀ g, g < 2 → Us A I t g → ∃ n, WfP A I t g n := fun g hg u => WfP.ok9 c1 c4 hg u
  have ok : ∀ S, (∀ n, GE A I S n) → (∀ g, Us A S t g = Us A I t g) → (∀ g, g < 2 → ∀ n, WfP A S t g n ↔ WfP A I t g n) ∧ ∀ g, g < 2 → Us A S t g → ∃ n, WfP A S t g n := fun S ge us => by
    have hw : ∀ g, g < 2 → ∀ n, WfP A S t g n ↔ WfP A I t g n := fun g hg => WfP.ge9 hg (fun n _ => ge n) (fun n h => vnI g n hg h) (us g)
    exact ⟨hw, fun g hg u => (okI g hg (by rw [← us g]; exact u)).elim fun n h => ⟨n, (hw g hg n).mpr h⟩⟩
  have ge1 : ∀ n, GE A I I1 n := fun n => GE.of (fun p hp hP => mr1 p (by omega) hp)
  obtain ⟨hw1, ok1⟩ := ok I1 ge1 (mr1.us9 t)
  obtain ⟨J0, J, e2, a0, a1⟩ := C_wf2 hs sa1 sx1 nu1 ht ok1 P
  have eW : F_Store_writeFirstEntries R (A 0) (nI t) I1 = some (up2 J (A (46 + 4 * t)) 3 (cif P 1 2)) := by
    unfold F_Store_writeFirstEntries B_Store_writeFirstEntries_19
    rw [chk_nI ht (by omega), nI_clamp (by omega)]
    simp only [RS, ht]
    rw [C_usesBoth hs ht sx1, ob_s, mr1.us9 t 0, mr1.us9 t 1, ← hPe, bI_if]
    by_cases p : P
    · rw [cif_t p] at e2
      rw [if_pos p, cif_t p]; exact e2
    · rw [cif_f p] at e2
      rw [if_neg p, cif_f p]; exact e2
  have bJ : Bt A I1 J (fun p => 5 ≤ p ∧ p < 46) := by
    have b0 : Bt A I1 J0 (fun p => 5 ≤ p ∧ p < 46) := by
      rcases a0 with ⟨-, e⟩ | ⟨n, ln, w, q1, q2, pc⟩
      · intro p hp hP; rw [e]
      · intro p hp hP
        have := w.1
        exact pc.1 p hp (by omega)
    rcases a1 with ⟨-, e⟩ | ⟨n, ln, w, q1, q2, pc⟩
    · rw [e]; exact b0
    · intro p hp hP
      have := w.1
      rw [pc.1 p hp (by omega)]
      exact b0 p hp hP
  obtain ⟨J', hJ'⟩ : ∃ J', J' = up2 J (A (46 + 4 * t)) 3 (cif P 1 2) := ⟨_, rfl⟩
  have j1 : ∀ p, p < 131 → p ≠ 46 + 4 * t → J' (A p) = J (A p) := fun p q1 q2 => by rw [hJ']; exact V_row hs _ _ _ (by omega) q1 q2
  have j2 : J' (A (46 + 4 * t)) = upd (I1 (A (46 + 4 * t))) 3 (cif P 1 2) := by rw [hJ', V_same, bJ _ (by omega) (by omega)]
  have mrJ : MR A I J' := fun p q1 q2 => by rw [j1 p q2 (by omega), bJ p q2 (by omega)]; exact mr1 p q1 q2
  rw [← hJ'] at eW
  have eC : F_Store_commit R (A 0) (nI t) I = some (cif P 1 2, J') := by
    rw [cc]
    unfold F_Store_abortOtherReaders
    rw [e1, ob_s, eW, ob_s, j2, upd_s]
  -- the reference
  obtain ⟨K1, e3, lb⟩ := M_ab1 (I := J') hs (fun n hn => (sm.1.2 n hn).2.2.cg mrJ.bt9 (by omega) (by omega)) ht hb (by rw [mrJ 110 (by omega) (by omega)]; exact hbe) b 0 100 J' (by omega) (by omega) ⟨fun p hp hP => rfl, fun j => by rw [cif_f (P := j < 0 ∧ HR A J' j t) (fun h => Nat.not_lt_zero _ h.1)]⟩
  rw [show nI 0 = (0 : Int32) from rfl, mrJ.us9 t 0, mrJ.us9 t 1, ← hPe] at e3
  have r3 : ∀ p, p < 131 → p ≠ 125 → K1 (A p) = J' (A p) := fun p q1 q2 => lb.1 p q1 q2
  have mk : ∀ p, 110 ≤ p → p < 131 → p ≠ 125 → K1 (A p) = I (A p) := fun p q1 q2 q3 => by rw [r3 p q2 q3]; exact mrJ p q1 q2
  have ge3 : ∀ n, GE A I K1 n := fun n => GE.of (fun p hp hP => mk p (by omega) hp (by omega))
  obtain ⟨hw3, ok3⟩ := ok K1 ge3 (fun g => by
    unfold Us RdG WrG
    rw [mk 126 (by omega) (by omega) (by omega), mk 127 (by omega) (by omega) (by omega)])
  obtain ⟨K0, K2, e4, m0, m1⟩ := M_wf2 (I := K1) hs (fun n hn => (ge3 n).vn (sm.1.2 n hn).2.2) ((ge3 0).nb nu.1) (fun n hn => ⟨(ge3 n).ns (nu.2.1 n hn).1, (ge3 n).eb (sm.1.2 n hn).2.2 (nu.2.1 n hn).2.1⟩) ht ok3 P
  have eM : F_Model_commit R (A 110) (nI t) J' = some (cif P 1 2, up2 K2 (A 125) t (cif P 1 2)) := by rw [goM J' mrJ, e3, e4]
  refine ⟨cif P 1 2, J', up2 K2 (A 125) t (cif P 1 2), eC, eM, Or.inr (Or.inr ?_)⟩
  -- a state between
  obtain ⟨X, hX⟩ : ∃ X : St, X = fun a j => if a = A 125 then (if j = t then cif P 1 2 else cif (j < b ∧ HR A I j t) 4 (I (A 125) j)) else up2 I1 (A (46 + 4 * t)) 3 (cif P 1 2) a j := ⟨_, rfl⟩
  have x5 : X (A 125) = fun j => if j = t then cif P 1 2 else cif (j < b ∧ HR A I j t) 4 (I (A 125) j) := by
    rw [hX]
    funext j
    exact if_pos rfl
  have xr : ∀ p, p < 131 → p ≠ 125 → X (A p) = up2 I1 (A (46 + 4 * t)) 3 (cif P 1 2) (A p) := fun p q1 q2 => by
    rw [hX]
    funext j
    exact if_neg (fun e => q2 (hs.1 p 125 q1 (by omega) e))
  have x1 : ∀ p, p < 131 → p ≠ 125 → p ≠ 46 + 4 * t → X (A p) = I1 (A p) := fun p q1 q2 q3 => by rw [xr p q1 q2]; exact V_row hs _ _ _ (by omega) q1 q3
  have x2 : X (A (46 + 4 * t)) = upd (I1 (A (46 + 4 * t))) 3 (cif P 1 2) := by rw [xr _ (by omega) (by omega), V_same]
  have xI : ∀ p, 110 ≤ p → p < 131 → p ≠ 125 → X (A p) = I (A p) := fun p q1 q2 q3 => by rw [x1 p q2 q3 (by omega)]; exact mr1 p q1 q2
  have geX : ∀ n, GE A I X n := fun n => GE.of (fun p hp hP => xI p (by omega) hp (by omega))
  have usX : ∀ g, Us A X t g = Us A I t g := fun g => by
    unfold Us RdG WrG
    rw [xI 126 (by omega) (by omega) (by omega), xI 127 (by omega) (by omega) (by omega)]
  obtain ⟨hwX, okX⟩ := ok X geX usX
  have nxX : ∀ n, n < 6 → nx A X n = nx A I n := fun n hn => (geX n).nx (sm.1.2 n hn).2.2
  have cmX : CmX A I X t (cif P 1 2) := by
    refine ⟨fun p hp hP => ?_, fun u hu => ?_, fun u hu hut => ?_, ?_⟩
    · rw [x1 p hp (fun e => hP (Or.inl e)) (fun e => hP (Or.inr ⟨t, ht, e⟩))]
      exact b1 p hp (fun ⟨u, q1, q2, q3⟩ => hP (Or.inr ⟨u, q1, q3⟩))
    · rw [x5]
      by_cases e : u = t
      · subst e
        rw [x2, upd_s, upd_n _ _ (by omega), rowt]
        exact ⟨(if_pos rfl).symm, rfl⟩
      · rw [x1 _ (by omega) (by omega) (by omega)]
        show I1 (A (46 + 4 * u)) 3 = (if u = t then cif P 1 2 else cif (u < b ∧ HR A I u t) 4 (I (A 125) u)) ∧ _
        rw [if_neg e]
        by_cases c : u < b
        · rw [la.2 u c hu]
          by_cases h : HR A I u t
          · rw [cif_t h, cif_t (P := u < b ∧ HR A I u t) ⟨c, h⟩, upd_s, upd_n _ _ (by omega)]
            exact ⟨rfl, rfl⟩
          · rw [cif_f h, cif_f (P := u < b ∧ HR A I u t) (fun q => h q.2)]
            exact ⟨(sm.2 u hu).1, rfl⟩
        · rw [la.1 _ (by omega) (fun ⟨v, w1, w2, w3⟩ => c (by omega)), cif_f (P := u < b ∧ HR A I u t) (fun q => c q.1)]
          exact ⟨(sm.2 u hu).1, rfl⟩
    · rw [x5]
      show (if u = t then cif P 1 2 else cif (u < b ∧ HR A I u t) 4 (I (A 125) u)) = I (A 125) u ∨ (I (A 125) u = 0 ∧ (if u = t then cif P 1 2 else cif (u < b ∧ HR A I u t) 4 (I (A 125) u)) = 4)
      rw [if_neg hut]
      by_cases h : u < b ∧ HR A I u t
      · rw [cif_t h]; exact Or.inr ⟨h.2.2.1, rfl⟩
      · rw [cif_f h]; exact Or.inl rfl
    · rw [x5]; exact if_pos rfl
  have hK5 : up2 K2 (A 125) t (cif P 1 2) (A 125) = X (A 125) := by
    have k2 : K2 (A 125) = K1 (A 125) := by
      have k0 : K0 (A 125) = K1 (A 125) := by
        rcases m0 with ⟨-, e⟩ | ⟨n, ln, w, q1, q2, pm⟩
        · rw [e]
        · exact pm.1 125 (by omega) (by omega)
      rcases m1 with ⟨-, e⟩ | ⟨n, ln, w, q1, q2, pm⟩
      · rw [e]; exact k0
      · rw [pm.1 125 (by omega) (by omega)]; exact k0
    rw [V_same, k2, x5]
    funext j
    by_cases e : j = t
    · subst e; rw [upd_s, if_pos rfl]
    · rw [upd_n _ _ e, if_neg e, lb.2 j, mrJ.hr9 j t, mrJ 125 (by omega) (by omega)]
  have kk : ∀ p, p < 131 → ¬ ((5 ≤ p ∧ p < 46) ∨ (110 ≤ p ∧ p < 125)) → p ≠ 125 → K2 (A p) = K1 (A p) := fun p q1 q2 q3 => by
    have k0 : K0 (A p) = K1 (A p) := by
      rcases m0 with ⟨-, e⟩ | ⟨n, ln, w, q1, q2, pm⟩
      · rw [e]
      · exact pm.1 p (by omega) (by omega)
    rcases m1 with ⟨-, e⟩ | ⟨n, ln, w, q1, q2, pm⟩
    · rw [e]; exact k0
    · rw [pm.1 p (by omega) (by omega)]; exact k0
  obtain ⟨Y, y0, y1⟩ := Pt.gen (X := X) (I1 := I1) (J0 := J0) (J := J) (S := K1) (K0 := K0) (K2 := K2) (K := up2 K2 (A 125) t (cif P 1 2)) (P := fun g n => WfP A I t g n) (st := fun n => nx A I n) (kd := cif P 1 2) (ow := nI t) (ou := -1) hs (fun g n h => ⟨h.1, h.2.1⟩) (fun g n m h h' => rdy_1 h.1 h'.1 h.2.2.1 h'.2.2.1) (fun p q => (x1 p (by omega) (by omega) (by omega)).symm) (fun p q1 q2 => by rw [r3 p (by omega) (by omega), j1 p (by omega) (by omega)]) (fun p q1 q2 => by rw [mk p q1 (by omega) (by omega), xI p q1 (by omega) (by omega)]) (fun p q => V_row hs _ _ _ (by omega) (by omega) (by omega)) (fun p q1 q2 => by
      by_cases e : p = 125
      · rw [e]; exact hK5
      · rw [V_row hs _ _ _ (by omega) q1 e, kk p q1 q2 e, r3 p q1 e]
        by_cases e2 : p = 46 + 4 * t
        · rw [e2, j2, x2]
        · rw [j1 p q1 e2, bJ p q1 (by omega), x1 p q1 e e2])
    (a0.imp (fun ⟨q1, q2⟩ => ⟨fun ⟨n, h⟩ => q1 ⟨n, (hw1 0 (by omega) n).mpr h⟩, q2⟩) (fun ⟨n, ln, w, q1, q2, pc⟩ => ⟨n, ln, (hw1 0 (by omega) n).mp w, q1, by rw [xI 118 (by omega) (by omega) (by omega), ← mr1 118 (by omega) (by omega)]; exact q2, by show PuC A I1 J0 n ln (X (A 113) n) (nx A I n) _ _ _; rw [xI 113 (by omega) (by omega) (by omega), ← mr1 113 (by omega) (by omega), ← mr1.nx9 n]; exact pc⟩))
    (a1.imp (fun ⟨q1, q2⟩ => ⟨fun ⟨n, h⟩ => q1 ⟨n, (hw1 1 (by omega) n).mpr h⟩, q2⟩) (fun ⟨n, ln, w, q1, q2, pc⟩ => ⟨n, ln, (hw1 1 (by omega) n).mp w, q1, by rw [xI 118 (by omega) (by omega) (by omega), ← mr1 118 (by omega) (by omega)]; exact q2, by show PuC A J0 J n ln (X (A 113) n) (nx A I n) _ _ _; rw [xI 113 (by omega) (by omega) (by omega), ← mr1 113 (by omega) (by omega), ← mr1.nx9 n]; exact pc⟩))
    (m0.imp (fun ⟨q1, q2⟩ => ⟨fun ⟨n, h⟩ => q1 ⟨n, (hw3 0 (by omega) n).mpr h⟩, q2⟩) (fun ⟨n, ln, w, q1, q2, pc⟩ => ⟨n, ln, (hw3 0 (by omega) n).mp w, q1, by rw [xI 118 (by omega) (by omega) (by omega), ← mk 118 (by omega) (by omega) (by omega)]; exact q2, by show PuM A K1 K0 n ln (X (A 113) n) (nx A I n) _ _ _; rw [xI 113 (by omega) (by omega) (by omega), ← mk 113 (by omega) (by omega) (by omega), ← (ge3 n).nx (sm.1.2 n w.1).2.2]; exact pc⟩))
    (m1.imp (fun ⟨q1, q2⟩ => ⟨fun ⟨n, h⟩ => q1 ⟨n, (hw3 1 (by omega) n).mpr h⟩, q2⟩) (fun ⟨n, ln, w, q1, q2, pc⟩ => ⟨n, ln, (hw3 1 (by omega) n).mp w, q1, by rw [xI 118 (by omega) (by omega) (by omega), ← mk 118 (by omega) (by omega) (by omega)]; exact q2, by show PuM A K0 K2 n ln (X (A 113) n) (nx A I n) _ _ _; rw [xI 113 (by omega) (by omega) (by omega), ← mk 113 (by omega) (by omega) (by omega), ← (ge3 n).nx (sm.1.2 n w.1).2.2]; exact pc⟩))
  have geY : ∀ n, n / 3 = 1 → GE A X Y n := fun n hn => by
    rcases y0 with h | ⟨m, ln, w, h⟩
    · exact GE.of (fun p hp hP => h p hp (fun q => q))
    · have := w.2.1
      exact GE.pt (by omega) h
  have usY : Us A Y t 1 = Us A X t 1 := by
    have r : ∀ p, 125 ≤ p → p < 131 → Y (A p) = X (A p) := fun p q1 q2 => by
      rcases y0 with h | ⟨m, ln, w, h⟩
      · exact h p q2 (fun q => q)
      · have := w.1
        exact h.2.1 p q2 (by omega)
    unfold Us RdG WrG
    rw [r 126 (by omega) (by omega), r 127 (by omega) (by omega)]
  have vnX : ∀ n, n / 3 = 1 → VN A X n := fun n hn => (geX n).vn (vnI 1 n (by omega) hn)
  refine ⟨t, cif P 1 2, X, Y, htb, c0, fun e => (nW (w8 t ht)).mp e c3, ?_, cmX, ?_, ?_⟩
  · by_cases p : P
    · rw [cif_t p]; exact Or.inl rfl
    · rw [cif_f p]; exact Or.inr rfl
  · rcases y0 with h | ⟨m, ln, w, h⟩
    · exact Or.inl h
    · refine Or.inr ⟨m, ln, (hwX 0 (by omega) m).mpr w, ?_⟩
      rw [nxX m w.1]; exact h
  · rcases y1 with h | ⟨m, ln, w, h⟩
    · exact Or.inl h
    · have hm3 := w.2.1
      refine Or.inr ⟨m, ln, (WfP.ge9 (by omega) geY vnX usY m).mpr ((hwX 1 (by omega) m).mpr w), ?_⟩
      rw [(geY m hm3).nx (vnX m hm3), nxX m w.1, (geY m hm3).2.1 113 (by omega) (by omega)]; exact h
end
