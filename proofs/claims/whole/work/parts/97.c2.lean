section
variable {R : Nat → Nat → Nat} {A : Nat → Nat} {I J : St} {n t : Nat}
/-- a key is held at n for another than t -/
def HO (A : Nat → Nat) (I : St) (n key b t k : Nat) : Prop := ∃ u, k ≤ u ∧ u < b ∧ u ≠ t ∧ (bt (I (A 126) u) key = true ∨ bt (I (A 127) u) key = true) ∧ Hold A I n (nI u)
theorem C_ho (hs : Sx R A) (hn : n < 6) (c : SC A I) (sn : SN A I n) (sl : SL A I n) (vn : VN A I n) (sx : ∀ t, t < 16 → SX A I t) {b : Nat} (hb : b ≤ 16) (hbe : I (A 110) 16 = nI b) {key : Nat} (hkey : key < 8) (ht : t < 16) : ∀ m k f, k + m = b → m < f → B_Store_isHeldForOther_3 R I f (A 0) (A (5 + 7 * n)) (nI key) (nI t) (nI k) = some (bI (HO A I n key b t k)) := by
  have RS := hs.all
  intro m
  induction m with
  | zero =>
    intro k f hkm hf
    obtain ⟨f, rfl⟩ : ∃ g, f = g + 1 := ⟨f - 1, by omega⟩
    rw [B_Store_isHeldForOther_3, c.2.2, hbe, if_pos (nI_le (by omega) (by omega)), bI_f (fun ⟨u, h1, h2, h3⟩ => by omega)]
  | succ m ih =>
    intro k f hkm hf
    obtain ⟨f, rfl⟩ : ∃ g, f = g + 1 := ⟨f - 1, by omega⟩
    have hk : k < 16 := by omega
    have sxk := sx k hk
    have hrd := (sxk.2.2.1 key hkey).1
    rw [B_Store_isHeldForOther_3]
    unfold B_Store_isHeldForOther_46 B_Store_isHeldForOther_57
    rw [c.2.2, hbe, if_neg (nI_ge (by omega) (by omega)), chk_nI hk (by omega), nI_clamp (by omega), chk_nI hkey (by omega), nI_clamp (by omega), nI_1]
    simp only [RS, hk]
    rw [C_writes hs hk sxk.w hkey, ob_s, bI_if, C_holdsFor hs hn sn sl vn, ob_s, bI_if, ih (k + 1) f (by omega) (by omega)]
    have nxt : ¬ (k ≠ t ∧ (bt (I (A 126) k) key = true ∨ bt (I (A 127) k) key = true) ∧ Hold A I n (nI k)) → bI (HO A I n key b t (k + 1)) = bI (HO A I n key b t k) := fun hno => bI_c ⟨fun ⟨u, h1, h2⟩ => ⟨u, by omega, h2⟩, fun ⟨u, h1, h2, h3⟩ => ⟨u, by
      have : u ≠ k := fun e => hno (e ▸ h3)
      omega, h2, h3⟩⟩
    have hit : k ≠ t ∧ (bt (I (A 126) k) key = true ∨ bt (I (A 127) k) key = true) ∧ Hold A I n (nI k) → bI (HO A I n key b t k) = 1 := fun h => bI_t (P := HO A I n key b t k) ⟨k, Nat.le_refl _, by omega, h⟩
    by_cases e : k = t
    · rw [if_pos (by rw [e]), nxt (fun h => h.1 e)]
    · rw [if_neg (fun q => e (nI_inj (by omega) (by omega) q))]
      by_cases l1 : I (A (47 + 4 * k)) key = 0
      · rw [if_pos l1]
        have l1' : bt (I (A 126) k) key = false := hrd.mp l1
        by_cases l2 : bt (I (A 127) k) key = true
        · rw [if_pos l2]
          by_cases l3 : Hold A I n (nI k)
          · rw [if_pos l3, hit ⟨e, Or.inr l2, l3⟩]
          · rw [if_neg l3, nxt (fun h => l3 h.2.2)]
        · rw [if_neg l2, nxt (fun h => h.2.1.elim (fun q => by rw [l1'] at q; exact absurd q (by decide)) l2)]
      · rw [if_neg l1]
        have l1' : bt (I (A 126) k) key = true := by
          cases hq : bt (I (A 126) k) key with
          | true => rfl
          | false => exact absurd (hrd.mpr hq) l1
        by_cases l3 : Hold A I n (nI k)
        · rw [if_pos l3, hit ⟨e, Or.inl l1', l3⟩]
        · rw [if_neg l3, nxt (fun h => l3 h.2.2)]
end
