section
variable {R : Nat → Nat → Nat} {A : Nat → Nat} {I J : St} {n t : Nat}
/-- t waits for u at the key -/
def W1 (A : Nat → Nat) (I : St) (t key n u : Nat) : Prop := u ≠ t ∧ ((u < t ∧ I (A 125) u = 0 ∧ bt (I (A 126) u) key = true ∧ HoM A I u (key / 4)) ∨ ((bt (I (A 126) u) key = true ∨ bt (I (A 127) u) key = true) ∧ Hold A I n (nI u)))
def Wt (A : Nat → Nat) (I : St) (t key n b k : Nat) : Prop := ∃ u, k ≤ u ∧ u < b ∧ W1 A I t key n u
theorem M_wt (hs : Sx R A) (sa : VA A I) (hn : n < 6) {b : Nat} (hb : b ≤ 16) (hbe : I (A 110) 16 = nI b) {key : Nat} (hkey : key < 8) (ht : t < 16) : ∀ m k f (P : Prop), k + m = b → m < f → B_Model_waits_14 R I f (A 110) (nI t) (nI key) (nI n) (bI P) (nI k) = some (bI (P ∨ Wt A I t key n b k)) := by
  have RS := hs.all
  have vn := sa n hn
  intro m
  induction m with
  | zero =>
    intro k f P hkm hf
    obtain ⟨f, rfl⟩ : ∃ g, f = g + 1 := ⟨f - 1, by omega⟩
    rw [B_Model_waits_14, hbe, if_pos (nI_le (by omega) (by omega)), zck_b]
    congr 1
    exact bI_c ⟨Or.inl, fun h => h.elim id (fun ⟨u, h1, h2, h3⟩ => by omega)⟩
  | succ m ih =>
    intro k f P hkm hf
    obtain ⟨f, rfl⟩ : ∃ g, f = g + 1 := ⟨f - 1, by omega⟩
    have hk : k < 16 := by omega
    have fin : ∀ Q : Prop, (Q ↔ P ∨ W1 A I t key n k) → some (bI (Q ∨ Wt A I t key n b (k + 1))) = some (bI (P ∨ Wt A I t key n b k)) := fun Q hQ => by
      congr 1
      refine bI_c ⟨fun h => ?_, fun h => ?_⟩
      · rcases h with h | ⟨u, h1, h2⟩
        · rcases hQ.mp h with h | h
          · exact Or.inl h
          · exact Or.inr ⟨k, Nat.le_refl _, by omega, h⟩
        · exact Or.inr ⟨u, by omega, h2⟩
      · rcases h with h | ⟨u, h1, h2, h3⟩
        · exact Or.inl (hQ.mpr (Or.inl h))
        · by_cases e : u = k
          · exact Or.inl (hQ.mpr (Or.inr (e ▸ h3)))
          · exact Or.inr ⟨u, by omega, h2, h3⟩
    have i1 := ih (k + 1) f True (by omega) (by omega)
    have i0 := ih (k + 1) f False (by omega) (by omega)
    rw [bI_t (P := True) trivial] at i1
    rw [bI_f (P := False) (fun h => h)] at i0
    -- the end of a round
    have t71 : ∀ (T : Prop), (T ↔ (k < t ∧ I (A 125) k = 0 ∧ bt (I (A 126) k) key = true ∧ HoM A I k (key / 4))) → B_Model_waits_71 R I (B_Model_waits_14 R I f) (A 110) (nI t) (nI key) (nI n) (bI P) (nI k) (bI T) = some (bI (P ∨ Wt A I t key n b k)) := by
      intro T hT
      unfold B_Model_waits_71 B_Model_waits_104 B_Model_waits_100 B_Model_waits_105
      rw [nI_1, i1, i0, bI_if, bI_if, M_logHolds hs hn vn hk hkey, ob_s, bI_if]
      by_cases hP : P
      · rw [if_pos hP]
        exact fin True ⟨fun _ => Or.inl hP, fun _ => trivial⟩
      · rw [if_neg hP]
        by_cases e : k = t
        · rw [if_pos (by rw [e])]
          exact fin False ⟨fun h => h.elim, fun h => h.elim hP (fun q => q.1 e)⟩
        · rw [if_neg (fun q => e (nI_inj (by omega) (by omega) q))]
          by_cases l1 : T
          · rw [if_pos l1]
            exact fin True ⟨fun _ => Or.inr ⟨e, Or.inl (hT.mp l1)⟩, fun _ => trivial⟩
          · rw [if_neg l1]
            by_cases l2 : (bt (I (A 126) k) key = true ∨ bt (I (A 127) k) key = true) ∧ Hold A I n (nI k)
            · rw [if_pos l2]
              exact fin True ⟨fun _ => Or.inr ⟨e, Or.inr l2⟩, fun _ => trivial⟩
            · rw [if_neg l2]
              exact fin False ⟨fun h => h.elim, fun h => h.elim hP (fun q => q.2.elim (fun z => l1 (hT.mpr z)) l2)⟩
    have t70 : ¬ (k < t ∧ I (A 125) k = 0 ∧ bt (I (A 126) k) key = true ∧ HoM A I k (key / 4)) → B_Model_waits_70 R I (B_Model_waits_14 R I f) (A 110) (nI t) (nI key) (nI n) (bI P) (nI k) = some (bI (P ∨ Wt A I t key n b k)) := fun hno => by
      unfold B_Model_waits_70
      have h := t71 False ⟨fun h => h.elim, hno⟩
      rw [bI_f (P := False) (fun h => h)] at h
      exact h
    rw [B_Model_waits_14, hbe, if_neg (nI_ge (by omega) (by omega))]
    by_cases l0 : t ≤ k
    · rw [if_pos (nI_le l0 (by omega)), t70 (fun h => by omega)]
    · rw [if_neg (nI_ge (by omega) (by omega)), chk_nI hk (by omega), chk_nI hk (by omega), nI_clamp (by omega)]
      simp only [RS]
      by_cases l1 : I (A 125) k = 0
      · rw [if_pos l1]
        have hbk := bk (I (A 126) k) (k := key) (by omega)
        by_cases l2 : bt (I (A 126) k) key = true
        · rw [if_pos (hbk.mpr l2), nd4 (by omega), M_holds hs sa hk (g := key / 4) (by omega), ob_s, bI_if]
          by_cases l3 : RdG A I k (key / 4) ∧ HoM A I k (key / 4)
          · rw [if_pos l3]
            have h := t71 True ⟨fun _ => ⟨by omega, l1, l2, l3.2⟩, fun _ => trivial⟩
            rw [bI_t (P := True) trivial] at h
            exact h
          · rw [if_neg l3, t70 (fun h => l3 ⟨⟨key, by omega, by omega, l2⟩, h.2.2.2⟩)]
        · rw [if_neg (fun h => l2 (hbk.mp h)), t70 (fun h => l2 h.2.2.1)]
      · rw [if_neg l1, t70 (fun h => l1 h.2.1)]
end
