section
variable {R : Nat → Nat → Nat} {A : Nat → Nat} {I J : St} {w b k : Nat} {P : Nat → Prop}
theorem HoM.cg (h : Bt A I J P) (m : Mn P) (p1 : ¬ P 129) (t g : Nat) : HoM A J t g = HoM A I t g := by
  unfold HoM
  rw [rdy.cg h m, h 113 (by omega) (m.2 _ (by omega) (by omega)), h 129 (by omega) p1]
theorem HR.cg (h : Bt A I J P) (m : Mn P) (p1 : ∀ p, 125 ≤ p → p < 131 → ¬ P p) (r w : Nat) : HR A J r w = HR A I r w := by
  unfold HR
  simp only [HoM.cg h m (p1 129 (by omega) (by omega)), h 125 (by omega) (p1 _ (by omega) (by omega)), h 126 (by omega) (p1 _ (by omega) (by omega)), h 127 (by omega) (p1 _ (by omega) (by omega))]
/-- the class's transactions before k: those that hold reads against w are ABORTED -/
def La (A : Nat → Nat) (I : St) (w k : Nat) (J : St) : Prop := Bt A I J (fun p => ∃ u, u < k ∧ u < 16 ∧ p = 46 + 4 * u) ∧ ∀ u, u < k → u < 16 → J (A (46 + 4 * u)) = cif (HR A I u w) (upd (I (A (46 + 4 * u))) 3 4) (I (A (46 + 4 * u)))
theorem C_ab1 (hs : Sx R A) (sm : Sim A I) (hw : w < 16) (hb : b ≤ 16) (hbe : I (A 110) 16 = nI b) : ∀ m k f J, k + m = b → m < f → La A I w k J → ∃ J', B_Store_abortOtherReaders_2 R f (A 0) (A (46 + 4 * w)) (nI k) J = some J' ∧ La A I w b J' := by
  have RS := hs.all
  intro m
  induction m with
  | zero =>
    intro k f J hkm hf hJ
    obtain ⟨f, rfl⟩ : ∃ g, f = g + 1 := ⟨f - 1, by omega⟩
    have e : k = b := by omega
    subst e
    refine ⟨J, ?_, hJ⟩
    rw [B_Store_abortOtherReaders_2, hJ.1 0 (by omega) (fun ⟨u, h1, h2, h3⟩ => by omega), sm.1.1.2.2, hbe, if_pos (nI_le (Nat.le_refl _) (by omega))]
  | succ m ih =>
    intro k f J hkm hf hJ
    obtain ⟨f, rfl⟩ : ∃ g, f = g + 1 := ⟨f - 1, by omega⟩
    have hk : k < 16 := by omega
    have mn : Mn (fun p => ∃ u, u < k ∧ u < 16 ∧ p = 46 + 4 * u) := ⟨fun ⟨u, h1, h2, h3⟩ => by omega, fun p q1 q2 ⟨u, h1, h2, h3⟩ => by omega⟩
    have saJ : SA A J := sm.1.cg hJ.1 mn (fun p ⟨u, h1, h2, h3⟩ => by omega)
    have sxk : SX A J k := (sm.2 k hk).cg hJ.1 hk (fun d hd ⟨u, h1, h2, h3⟩ => by omega) (fun p q1 q2 ⟨u, h1, h2, h3⟩ => by omega)
    have sww : SW A J w := (sm.2 w hw).w.cg hJ.1 hw (fun ⟨u, h1, h2, h3⟩ => by omega) (fun ⟨u, h1, h2, h3⟩ => by omega) (fun ⟨u, h1, h2, h3⟩ => by omega)
    rw [B_Store_abortOtherReaders_2]
    unfold B_Store_abortOtherReaders_34
    rw [hJ.1 0 (by omega) (fun ⟨u, h1, h2, h3⟩ => by omega), sm.1.1.2.2, hbe, if_neg (nI_ge (by omega) (by omega)), chk_nI hk (by omega), chk_nI hk (by omega), nI_clamp (by omega), nI_1]
    simp only [RS, hk, ap_s]
    rw [C_hra hs saJ hk hw sxk sww, ob_s, bI_if, HR.cg hJ.1 mn (fun p q1 q2 ⟨u, h1, h2, h3⟩ => by omega)]
    have rowk : J (A (46 + 4 * k)) = I (A (46 + 4 * k)) := hJ.1 _ (by omega) (fun ⟨u, h1, h2, h3⟩ => by omega)
    have nxt : ∀ J', (∀ p, p < 131 → p ≠ 46 + 4 * k → J' (A p) = J (A p)) → J' (A (46 + 4 * k)) = cif (HR A I k w) (upd (I (A (46 + 4 * k))) 3 4) (I (A (46 + 4 * k))) → La A I w (k + 1) J' := fun J' q1 q2 => by
      refine ⟨fun p hp hP => ?_, fun u h1 h2 => ?_⟩
      · rw [q1 p hp (fun e => hP ⟨k, by omega, hk, e⟩)]
        exact hJ.1 p hp (fun ⟨u, h1, h2, h3⟩ => hP ⟨u, by omega, h2, h3⟩)
      · by_cases e : u = k
        · subst e; exact q2
        · rw [q1 _ (by omega) (by omega)]; exact hJ.2 u (by omega) h2
    by_cases h : HR A I k w
    · rw [if_pos h]
      exact ih (k + 1) f _ (by omega) (by omega) (nxt _ (fun p q1 q2 => V_row hs _ _ _ (by omega) q1 q2) (by rw [V_same, rowk, cif_t h]))
    · rw [if_neg h]
      exact ih (k + 1) f _ (by omega) (by omega) (nxt _ (fun p q1 q2 => rfl) (by rw [rowk, cif_f h]))
/-- the reference's -/
def Lb (A : Nat → Nat) (I : St) (w k : Nat) (J : St) : Prop := Bt A I J (fun p => p = 125) ∧ ∀ j, J (A 125) j = cif (j < k ∧ HR A I j w) 4 (I (A 125) j)
theorem M_ab1 (hs : Sx R A) (sa : VA A I) (hw : w < 16) (hb : b ≤ 16) (hbe : I (A 110) 16 = nI b) : ∀ m k f J, k + m = b → m < f → Lb A I w k J → ∃ J', B_Model_commit_161 R f (A 110) (nI w) (nI k) J = B_Model_commit_232 R 100 (A 110) (nI w) (bI (Us A I w 0 ∧ Us A I w 1)) 0 J' ∧ Lb A I w b J' := by
  have RS := hs.all
  intro m
  induction m with
  | zero =>
    intro k f J hkm hf hJ
    obtain ⟨f, rfl⟩ : ∃ g, f = g + 1 := ⟨f - 1, by omega⟩
    have e : k = b := by omega
    subst e
    refine ⟨J, ?_, hJ⟩
    have hU : ∀ g, Us A J w g = Us A I w g := fun g => by
      unfold Us RdG WrG
      rw [hJ.1 126 (by omega) (by omega), hJ.1 127 (by omega) (by omega)]
    have m0 := M_touches (I := J) hs hw (g := 0) (by omega)
    have m1 := M_touches (I := J) hs hw (g := 1) (by omega)
    rw [hU, show nI 0 = (0 : Int32) from rfl] at m0
    rw [hU, show nI 1 = (1 : Int32) from rfl] at m1
    rw [B_Model_commit_161]
    unfold B_Model_commit_227 B_Model_commit_228
    rw [hJ.1 110 (by omega) (by omega), hbe, if_pos (nI_le (Nat.le_refl _) (by omega)), m0, ob_s, bI_if, m1, ob_s, bI_if]
    by_cases h : Us A I w 0
    · rw [if_pos h]
      by_cases h2 : Us A I w 1
      · rw [if_pos h2, bI_t (P := Us A I w 0 ∧ Us A I w 1) ⟨h, h2⟩]
      · rw [if_neg h2, bI_f (P := Us A I w 0 ∧ Us A I w 1) (fun q => h2 q.2)]
    · rw [if_neg h, bI_f (P := Us A I w 0 ∧ Us A I w 1) (fun q => h q.1)]
  | succ m ih =>
    intro k f J hkm hf hJ
    obtain ⟨f, rfl⟩ : ∃ g, f = g + 1 := ⟨f - 1, by omega⟩
    have hk : k < 16 := by omega
    have mn : Mn (fun p => p = 125) := ⟨by omega, fun p q1 q2 => by omega⟩
    have saJ : VA A J := fun n hn => (sa n hn).cg hJ.1 (by omega) (by omega)
    have s5 : J (A 125) k = I (A 125) k := by rw [hJ.2, cif_f (fun h => by omega)]
    have hC : Cl A J k w = Cl A I k w := by
      unfold Cl
      simp only [HoM.cg hJ.1 mn (by omega), hJ.1 126 (by omega) (by omega), hJ.1 127 (by omega) (by omega)]
    have nxt : ∀ J', (∀ p, p < 131 → p ≠ 125 → J' (A p) = J (A p)) → (∀ j, j ≠ k → J' (A 125) j = J (A 125) j) → J' (A 125) k = cif (HR A I k w) 4 (I (A 125) k) → Lb A I w (k + 1) J' := fun J' q1 q2 q3 => by
      refine ⟨fun p hp hP => by rw [q1 p hp hP]; exact hJ.1 p hp hP, fun j => ?_⟩
      by_cases e : j = k
      · subst e
        rw [q3]
        by_cases h : HR A I j w
        · rw [cif_t h, cif_t ⟨by omega, h⟩]
        · rw [cif_f h, cif_f (fun q => h q.2)]
      · rw [q2 j e, hJ.2]
        by_cases h : j < k ∧ HR A I j w
        · rw [cif_t h, cif_t ⟨by omega, h.2⟩]
        · rw [cif_f h, cif_f (fun q => h ⟨by omega, q.2⟩)]
    have stay : ¬ HR A I k w → Lb A I w (k + 1) J := fun h => nxt J (fun p q1 q2 => rfl) (fun j q => rfl) (by rw [cif_f h, s5])
    rw [B_Model_commit_161]
    unfold B_Model_commit_199
    rw [hJ.1 110 (by omega) (by omega), hbe, if_neg (nI_ge (by omega) (by omega)), chk_nI hk (by omega), nI_clamp (by omega), nI_1]
    simp only [RS]
    rw [s5, M_clashes hs saJ hk hw, ob_s, bI_if, hC, chk_nI hk (by omega), ap_s]
    by_cases e : k = w
    · rw [if_pos (by rw [e])]
      exact ih (k + 1) f J (by omega) (by omega) (stay (fun h => h.1 e))
    · rw [if_neg (fun q => e (nI_inj (by omega) (by omega) q))]
      by_cases l1 : I (A 125) k = 0
      · rw [if_pos l1]
        by_cases l2 : Cl A I k w
        · rw [if_pos l2]
          refine ih (k + 1) f _ (by omega) (by omega) (nxt _ (fun p q1 q2 => V_row hs _ _ _ (by omega) q1 q2) (fun j q => by rw [V_same, upd_n _ _ q]) ?_)
          rw [V_same, upd_s, cif_t (P := HR A I k w) ⟨e, l1, l2⟩]
        · rw [if_neg l2]
          exact ih (k + 1) f J (by omega) (by omega) (stay (fun h => l2 h.2.2))
      · rw [if_neg l1]
        exact ih (k + 1) f J (by omega) (by omega) (stay (fun h => l1 h.2.1))
end
