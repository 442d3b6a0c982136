section
variable {R : Nat → Nat → Nat} {A : Nat → Nat} {I J : St} {r w : Nat}
/-- r holds reads against w -/
def HR (A : Nat → Nat) (I : St) (r w : Nat) : Prop := r ≠ w ∧ I (A 125) r = 0 ∧ ∃ k, k < 8 ∧ bt (I (A 127) w) k = true ∧ bt (I (A 126) r) k = true ∧ HoM A I r (k / 4)
theorem C_hr1 (hs : Sx R A) (sa : SA A I) (hr : r < 16) (hw : w < 16) (sxr : SX A I r) (sxw : SW A I w) : ∀ m k f, k + m = 8 → m < f → B_Store_holdsReadsAgainst_16 R I f (A 0) (A (46 + 4 * r)) (A (46 + 4 * w)) (nI k) = some (bI (∃ j, k ≤ j ∧ j < 8 ∧ bt (I (A 127) w) j = true ∧ bt (I (A 126) r) j = true ∧ HoM A I r (j / 4))) := by
  have RS := hs.all
  intro m
  induction m with
  | zero =>
    intro k f hkm hf
    obtain ⟨f, rfl⟩ : ∃ g, f = g + 1 := ⟨f - 1, by omega⟩
    rw [B_Store_holdsReadsAgainst_16, if_pos (show (8 : Int32) ≤ nI k from nI_le (a := 8) (by omega) (by omega)), bI_f (fun ⟨u, h1, h2, h3⟩ => by omega)]
  | succ m ih =>
    intro k f hkm hf
    obtain ⟨f, rfl⟩ : ∃ g, f = g + 1 := ⟨f - 1, by omega⟩
    have hk : k < 8 := by omega
    have hrd := (sxr.2.2.1 k hk).1
    rw [B_Store_holdsReadsAgainst_16]
    unfold B_Store_holdsReadsAgainst_53 F_Store_groupOfKey
    rw [if_neg (show ¬ (8 : Int32) ≤ nI k from nI_ge (b := 8) (by omega) (by omega)), C_writes hs hw sxw hk, ob_s, bI_if, chk_nI hk (by omega), nI_clamp (by omega), nI_1, nd4 (by omega), ob_s, ih (k + 1) f (by omega) (by omega)]
    simp only [RS, hr]
    have nxt : ¬ (bt (I (A 127) w) k = true ∧ bt (I (A 126) r) k = true ∧ HoM A I r (k / 4)) → bI (∃ j, k + 1 ≤ j ∧ j < 8 ∧ bt (I (A 127) w) j = true ∧ bt (I (A 126) r) j = true ∧ HoM A I r (j / 4)) = bI (∃ j, k ≤ j ∧ j < 8 ∧ bt (I (A 127) w) j = true ∧ bt (I (A 126) r) j = true ∧ HoM A I r (j / 4)) := fun hno => bI_c ⟨fun ⟨u, h1, h2⟩ => ⟨u, by omega, h2⟩, fun ⟨u, h1, h2, h3⟩ => ⟨u, by
      have : u ≠ k := fun e => hno (e ▸ h3)
      omega, h2, h3⟩⟩
    by_cases l1 : bt (I (A 127) w) k = true
    · rw [if_pos l1]
      by_cases l2 : I (A (47 + 4 * r)) k = 0
      · rw [if_pos l2, nxt (fun h => by rw [hrd.mp l2] at h; exact absurd h.2.1 (by decide))]
      · have l2' : bt (I (A 126) r) k = true := by
          cases hq : bt (I (A 126) r) k with
          | true => rfl
          | false => exact absurd (hrd.mpr hq) l2
        rw [if_neg l2, C_holdsReads hs sa hr sxr (g := k / 4) (by omega) ⟨k, by omega, by omega, l2'⟩, ob_s, bI_if]
        by_cases l3 : HoM A I r (k / 4)
        · rw [if_pos l3, bI_t (P := ∃ j, k ≤ j ∧ j < 8 ∧ bt (I (A 127) w) j = true ∧ bt (I (A 126) r) j = true ∧ HoM A I r (j / 4)) ⟨k, Nat.le_refl _, hk, l1, l2', l3⟩]
        · rw [if_neg l3, nxt (fun h => l3 h.2.2)]
    · rw [if_neg l1, nxt (fun h => l1 h.1)]
theorem C_hra (hs : Sx R A) (sa : SA A I) (hr : r < 16) (hw : w < 16) (sxr : SX A I r) (sxw : SW A I w) : F_Store_holdsReadsAgainst R (A 0) (A (46 + 4 * r)) (A (46 + 4 * w)) I = some (bI (HR A I r w)) := by
  unfold F_Store_holdsReadsAgainst B_Store_holdsReadsAgainst_12
  by_cases e : r = w
  · rw [if_pos (by rw [e]), bI_f (P := HR A I r w) (fun h => h.1 e)]
  · rw [if_neg (fun q => e (by have := hs.1 (46 + 4 * r) (46 + 4 * w) (by omega) (by omega) (Option.some.inj q); omega)), sxr.1]
    by_cases l1 : I (A 125) r = 0
    · have h := C_hr1 hs sa hr hw sxr sxw 8 0 100 (by omega) (by omega)
      rw [show nI 0 = (0 : Int32) from rfl] at h
      rw [if_pos l1, h]
      congr 1
      exact bI_c ⟨fun ⟨k, h1, h2⟩ => ⟨e, l1, k, h2⟩, fun ⟨_, _, k, h2⟩ => ⟨k, by omega, h2⟩⟩
    · rw [if_neg l1, bI_f (P := HR A I r w) (fun h => l1 h.2.1)]
/-- the reference's clash of r with w -/
def Cl (A : Nat → Nat) (I : St) (r w : Nat) : Prop := ∃ k, k < 8 ∧ bt (I (A 127) w) k = true ∧ bt (I (A 126) r) k = true ∧ HoM A I r (k / 4)
end
