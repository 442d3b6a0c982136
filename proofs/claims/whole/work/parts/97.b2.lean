section
variable {R : Nat → Nat → Nat} {A : Nat → Nat} {I J : St} {n t : Nat}
/-- at most one entry of kind w for o in n's log -/
def Uq (A : Nat → Nat) (I : St) (n : Nat) (w o : Int32) : Prop := ∀ j k, j < (I (A 118) n).toNatClampNeg → k < (I (A 118) n).toNatClampNeg → Mt A I n w o j → Mt A I n w o k → j = k
/-- what a step of a COMMITTING transaction does -/
def CoE (A : Nat → Nat) (I J K : St) (t : Nat) : Prop := (J = I ∧ K = I) ∨ (∃ g n s, g < 2 ∧ n < 6 ∧ rdy A I g = nI n ∧ (g = 0 ↔ Us A I t 0) ∧ ¬ HasE A I n 2 (nI t) ∧ ((s = 4 ∧ ¬ (Us A I t 0 ∧ Us A I t 1)) ∨ (s = 1 ∧ Us A I t 0 ∧ Us A I t 1)) ∧ J = up2 I (A (46 + 4 * t)) 3 s ∧ K = up2 J (A 125) t s) ∨
  ∃ g n p, g < 2 ∧ n < 6 ∧ rdy A I g = nI n ∧ (g = 0 ↔ Us A I t 0) ∧ p < (I (A 118) n).toNatClampNeg ∧ Mt A I n 2 (nI t) p ∧ KnsE A I n 2 (nI t) ∧ ¬ Ear A I n ≤ I (A 121) (60 * n + p) ∧ J = up2 (up2 I (A (46 + 4 * t)) 3 3) (A (46 + 4 * t)) 4 (I (A 121) (60 * n + p)) ∧ K = up2 (up2 J (A 125) t 3) (A 130) t (I (A 121) (60 * n + p))
theorem e_committing (hs : Sx R A) (sm : Sim A I) (ht : t < 16) (uq : ∀ n, n < 6 → Uq A I n 2 (nI t)) : ∃ v J K, F_Store_stepCommitting R (A 0) (nI t) I = some (v, J) ∧ F_Model_committing R (A 110) (nI t) J = some (v, K) ∧ CoE A I J K t := by
  have RS := hs.all
  have sa := sm.1
  have sx := sm.2 t ht
  obtain ⟨g, hg, hgu⟩ : ∃ g, g < 2 ∧ (g = 0 ↔ Us A I t 0) := by
    by_cases h : Us A I t 0
    · exact ⟨0, by omega, ⟨fun _ => h, fun _ => rfl⟩⟩
    · exact ⟨1, by omega, ⟨fun e => absurd e (by omega), fun e => absurd e h⟩⟩
  have goC : ∀ w, B_Store_stepCommitting_21 R (A 0) (nI t) (A (46 + 4 * t)) (A 0) (nI g) I = w → F_Store_stepCommitting R (A 0) (nI t) I = w := by
    intro w hw
    unfold F_Store_stepCommitting
    rw [chk_nI ht (by omega), nI_clamp (by omega)]
    simp only [RS, ht]
    rw [show (0 : Int32) = nI 0 from rfl, C_usesGroup hs ht sx (by omega), ob_s, show nI 0 = (0 : Int32) from rfl, bI_if]
    by_cases h : Us A I t 0
    · rw [if_pos h]
      have e : g = 0 := hgu.mpr h
      rw [e] at hw
      exact hw
    · rw [if_neg h]
      have e : g = 1 := by
        have : g ≠ 0 := fun e => h (hgu.mp e)
        omega
      rw [e] at hw
      exact hw
  have goM : ∀ (K : St) w, (∀ g, Us A K t g = Us A I t g) → B_Model_committing_39 R (A 110) (nI t) (bI (Us A I t 0 ∧ Us A I t 1)) (A 110) (nI g) K = w → F_Model_committing R (A 110) (nI t) K = w := by
    intro K w hU hw
    have m0 := M_touches (I := K) hs ht (g := 0) (by omega)
    have m1 := M_touches (I := K) hs ht (g := 1) (by omega)
    rw [hU, show nI 0 = (0 : Int32) from rfl] at m0
    rw [hU, show nI 1 = (1 : Int32) from rfl] at m1
    have t23 : ∀ b : Int32, b = bI (Us A I t 0 ∧ Us A I t 1) → B_Model_committing_23 R (A 110) (nI t) b K = w := by
      intro b hb
      unfold B_Model_committing_23
      rw [m0, ob_s, bI_if, hb]
      by_cases h : Us A I t 0
      · rw [if_pos h]
        have e : g = 0 := hgu.mpr h
        rw [e] at hw
        exact hw
      · rw [if_neg h]
        have e : g = 1 := by
          have : g ≠ 0 := fun e => h (hgu.mp e)
          omega
        rw [e] at hw
        exact hw
    unfold F_Model_committing B_Model_committing_22
    rw [m0, ob_s, bI_if, m1, ob_s, bI_if]
    by_cases h : Us A I t 0
    · rw [if_pos h]
      by_cases h2 : Us A I t 1
      · rw [if_pos h2]; exact t23 1 (bI_t (P := Us A I t 0 ∧ Us A I t 1) ⟨h, h2⟩).symm
      · rw [if_neg h2]; exact t23 0 (bI_f (P := Us A I t 0 ∧ Us A I t 1) (fun q => h2 q.2)).symm
    · rw [if_neg h]; exact t23 0 (bI_f (P := Us A I t 0 ∧ Us A I t 1) (fun q => h q.1)).symm
  rcases rdy_c A I hg with ⟨r1, r2⟩ | ⟨n, r1, hn, r3, r4⟩
  · refine ⟨-3, I, I, goC _ ?_, goM I _ (fun _ => rfl) ?_, Or.inl ⟨rfl, rfl⟩⟩
    · unfold B_Store_stepCommitting_21
      rw [C_readyNode hs sa hg, ob_s, r1, if_pos rfl]
    · unfold B_Model_committing_39
      rw [M_ready hs sa.va hg, ob_s, r1, if_neg (by decide)]
  obtain ⟨sn, sl, vn⟩ := sa.2 n hn
  have mn : Mn (fun p => p = 46 + 4 * t) := ⟨by omega, fun p q1 q2 => by omega⟩
  have b1 : ∀ (j : Nat) (v : Int32), Bt A I (up2 I (A (46 + 4 * t)) j v) (fun p => p = 46 + 4 * t) := fun j v p hp hP => V_row hs _ _ _ (by omega) hp hP
  have usc : ∀ {K : St}, Bt A I K (fun p => p = 46 + 4 * t) → ∀ g, Us A K t g = Us A I t g := fun {K} b g => by
    unfold Us RdG WrG
    rw [b 126 (by omega) (by omega), b 127 (by omega) (by omega)]
  -- the class, from the ready node on
  have goC2 : ∀ w, (if bI (HasE A I n 2 (nI t)) = 0 then (if bI (Us A I t 0 ∧ Us A I t 1) = 0 then some (4, up2 I (A (46 + 4 * t)) 3 4) else some (1, up2 I (A (46 + 4 * t)) 3 1)) else (if bI (KnsE A I n 2 (nI t)) = 0 then some (I (A 125) t, I) else (ob (F_Log_stampOf R (A (5 + 7 * n)) 2 (nI t) I) (fun v87 => (if Ear A I n ≤ v87 then some (I (A 125) t, I) else (ob (F_Log_stampOf R (A (5 + 7 * n)) 2 (nI t) (up2 I (A (46 + 4 * t)) 3 3)) (fun v112 => some (3, up2 (up2 I (A (46 + 4 * t)) 3 3) (A (46 + 4 * t)) 4 v112)))))))) = w → F_Store_stepCommitting R (A 0) (nI t) I = w := by
    intro w hw
    refine goC w ?_
    unfold B_Store_stepCommitting_21 B_Store_stepCommitting_67 B_Store_stepCommitting_118
    rw [C_readyNode hs sa hg, ob_s, r3, if_neg (nI_nm1 (by omega))]
    simp only [chk_nI hn (show 6 < 2 ^ 31 by omega), nI_clamp (show n < 2 ^ 31 by omega), RS, hn]
    rw [C_has hs hn sn sl vn, ob_s, C_usesBoth hs ht sx, ob_s, C_knows hs hn sn sl vn, ob_s, C_earliest hs hn sa.1 sn, sx.1]
    simp only [ob_s, ap_s, V_same, upd_s, upd_n _ _ (show 3 ≠ 4 by omega)]
    exact hw
  have goM2 : ∀ (K : St) w, Bt A I K (fun p => p = 46 + 4 * t) → (if bI (HasE A I n 2 (nI t)) = 0 then (if bI (Us A I t 0 ∧ Us A I t 1) = 0 then some (4, up2 K (A 125) t 4) else some (1, up2 K (A 125) t 1)) else (ob (F_Model_find R (A 110) (nI n) (nI t) 2 (K (A 118) n) K) (fun v96 => (chk (((60 : Int32) * nI n) + v96) 360 ((if bI (KnsE A I n 2 (nI t)) = 0 then some (I (A 125) t, K) else (if Ear A I n ≤ (K (A 121) (((60 : Int32) * nI n) + v96).toNatClampNeg) then some (I (A 125) t, K) else some (3, up2 (up2 K (A 125) t 3) (A 130) t (K (A 121) (((60 : Int32) * nI n) + v96).toNatClampNeg))))))))) = w → F_Model_committing R (A 110) (nI t) K = w := by
    intro K w b hw
    have saK : SA A K := sa.cg b mn (fun p e => by omega)
    obtain ⟨snK, slK, vnK⟩ := saK.2 n hn
    have hH : HasE A K n 2 (nI t) = HasE A I n 2 (nI t) := by
      unfold HasE Mt
      rw [b 118 (by omega) (by omega), b 122 (by omega) (by omega), b 123 (by omega) (by omega)]
    have hKn : KnsE A K n 2 (nI t) = KnsE A I n 2 (nI t) := by
      unfold KnsE Mt
      rw [b 119 (by omega) (by omega), b 122 (by omega) (by omega), b 123 (by omega) (by omega)]
    refine goM K w (usc b) ?_
    unfold B_Model_committing_39 B_Model_committing_74 B_Model_committing_138
    rw [M_ready hs saK.va hg, ob_s, rdy.cg b mn, r3, if_pos (nI_pos' (by omega)), M_has hs hn vnK, ob_s, hH, chk_nI hn (by omega), nI_clamp (by omega), M_knows hs hn vnK, hKn, M_earliest hs hn, Ear.cg b (by omega) (by omega)]
    have r130 : ∀ (L : St) (v : Int32), up2 L (A 130) t v (A 125) = L (A 125) := fun L v => V_row hs _ _ _ (by omega) (by omega) (by omega)
    simp only [RS, ob_s, ap_s, chk_nI ht (show 16 < 2 ^ 31 by omega), nI_clamp (show t < 2 ^ 31 by omega), nI_clamp (show n < 2 ^ 31 by omega), r130, V_same, upd_s, b 125 (by omega) (by omega)]
    exact hw
  by_cases l1 : HasE A I n 2 (nI t)
  · obtain ⟨p, hp, hm⟩ := l1
    have hu : ∀ j, j < (I (A 118) n).toNatClampNeg → Mt A I n 2 (nI t) j → j = p := fun j hj hj2 => uq n hn j p hj hp hj2 hm
    have l1 : HasE A I n 2 (nI t) := ⟨p, hp, hm⟩
    have hp60 : p < 60 := by
      obtain ⟨v1, v2, v3, v4⟩ := vn.s
      have : p < lnN A I n := hp
      omega
    have find : ∀ K, Bt A I K (fun p => p = 46 + 4 * t) → F_Model_find R (A 110) (nI n) (nI t) 2 (K (A 118) n) K = some (nI p) := fun K b => by
      have vnK := vn.cg b (by omega) (by omega)
      refine M_findAt hs hn vnK 2 (nI t) (by rw [b 118 (by omega) (by omega)]; exact hp) ?_ ?_
      · unfold Mt; rw [b 122 (by omega) (by omega), b 123 (by omega) (by omega)]; exact hm
      · intro j hj hj2
        unfold Mt at hj2
        rw [b 122 (by omega) (by omega), b 123 (by omega) (by omega)] at hj2
        rw [b 118 (by omega) (by omega)] at hj
        exact hu j hj hj2
    have bI0 : Bt A I I (fun p => p = 46 + 4 * t) := fun p hp hP => rfl
    by_cases l2 : KnsE A I n 2 (nI t)
    · by_cases l3 : Ear A I n ≤ I (A 121) (60 * n + p)
      · refine ⟨I (A 125) t, I, I, goC2 _ ?_, goM2 I _ bI0 ?_, Or.inl ⟨rfl, rfl⟩⟩
        · rw [bI_if, if_pos l1, bI_if, if_pos l2, C_stampOf hs hn sn sl vn 2 (nI t) hp hm hu, ob_s, if_pos l3]
        · rw [bI_if, if_pos l1, find I bI0, ob_s, n60, chk_nI (by omega) (by omega), nI_clamp (by omega), bI_if, if_pos l2, if_pos l3]
      · have b3 := b1 3 3
        have sa3 : SA A (up2 I (A (46 + 4 * t)) 3 3) := sa.cg b3 mn (fun p e => by omega)
        obtain ⟨sn3, sl3, vn3⟩ := sa3.2 n hn
        have e3 : F_Log_stampOf R (A (5 + 7 * n)) 2 (nI t) (up2 I (A (46 + 4 * t)) 3 3) = some (I (A 121) (60 * n + p)) := by
          rw [C_stampOf hs hn sn3 sl3 vn3 2 (nI t) (p := p) (by rw [b3 118 (by omega) (by omega)]; exact hp) (by unfold Mt; rw [b3 122 (by omega) (by omega), b3 123 (by omega) (by omega)]; exact hm) (fun j hj hj2 => by
            unfold Mt at hj2
            rw [b3 122 (by omega) (by omega), b3 123 (by omega) (by omega)] at hj2
            rw [b3 118 (by omega) (by omega)] at hj
            exact hu j hj hj2), b3 121 (by omega) (by omega)]
        have b4 : Bt A I (up2 (up2 I (A (46 + 4 * t)) 3 3) (A (46 + 4 * t)) 4 (I (A 121) (60 * n + p))) (fun p => p = 46 + 4 * t) := fun q hq hP => by
          rw [V_row hs _ _ _ (by omega) hq hP]; exact b3 q hq hP
        refine ⟨3, _, _, goC2 _ ?_, goM2 _ _ b4 ?_, Or.inr (Or.inr ⟨g, n, p, hg, hn, r3, hgu, hp, hm, l2, l3, rfl, rfl⟩)⟩
        · rw [bI_if, if_pos l1, bI_if, if_pos l2, C_stampOf hs hn sn sl vn 2 (nI t) hp hm hu, ob_s, if_neg l3, e3, ob_s]
        · rw [bI_if, if_pos l1, find _ b4, ob_s, n60, chk_nI (by omega) (by omega), nI_clamp (by omega), bI_if, if_pos l2, b4 121 (by omega) (by omega), if_neg l3]
    · refine ⟨I (A 125) t, I, I, goC2 _ ?_, goM2 I _ bI0 ?_, Or.inl ⟨rfl, rfl⟩⟩
      · rw [bI_if, if_pos l1, bI_if, if_neg l2]
      · rw [bI_if, if_pos l1, find I bI0, ob_s, n60, chk_nI (by omega) (by omega), bI_if, if_neg l2]
  · by_cases l2 : Us A I t 0 ∧ Us A I t 1
    · refine ⟨1, up2 I (A (46 + 4 * t)) 3 1, _, goC2 _ ?_, goM2 _ _ (b1 3 1) ?_, Or.inr (Or.inl ⟨g, n, 1, hg, hn, r3, hgu, l1, Or.inr ⟨rfl, l2⟩, rfl, rfl⟩)⟩
      · rw [bI_if, if_neg l1, bI_if, if_pos l2]
      · rw [bI_if, if_neg l1, bI_if, if_pos l2]
    · refine ⟨4, up2 I (A (46 + 4 * t)) 3 4, _, goC2 _ ?_, goM2 _ _ (b1 3 4) ?_, Or.inr (Or.inl ⟨g, n, 4, hg, hn, r3, hgu, l1, Or.inl ⟨rfl, l2⟩, rfl, rfl⟩)⟩
      · rw [bI_if, if_neg l1, bI_if, if_neg l2]
      · rw [bI_if, if_neg l1, bI_if, if_neg l2]
end
