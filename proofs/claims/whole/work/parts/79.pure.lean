section
variable {R : Nat → Nat → Nat} {A : Nat → Nat} {I : St} {n : Nat}
/-- some transaction that writes the key is held in n's log -/
def HW (A : Nat → Nat) (I : St) (n key b k : Nat) : Prop := ∃ u, k ≤ u ∧ u < b ∧ bt (I (A 127) u) key = true ∧ Hold A I n (nI u)
theorem C_hw (hs : Sx R A) (hn : n < 6) (c : SC A I) (sn : SN A I n) (sl : SL A I n) (vn : VN A I n) (sx : ∀ t, t < 16 → SW A I t) {b : Nat} (hb : b ≤ 16) (hbe : I (A 110) 16 = nI b) {key : Nat} (hkey : key < 8) : ∀ m k f, k + m = b → m < f → B_Store_isHeldForWriter_2 R I f (A 0) (A (5 + 7 * n)) (nI key) (nI k) = some (bI (HW A I n key b k)) := by
  have RS := hs.all
  intro m
  induction m with
  | zero =>
    intro k f hkm hf
    obtain ⟨f, rfl⟩ : ∃ g, f = g + 1 := ⟨f - 1, by omega⟩
    rw [B_Store_isHeldForWriter_2, c.2.2, hbe, if_pos (nI_le (by omega) (by omega)), bI_f (fun ⟨u, h1, h2, h3, h4⟩ => by omega)]
  | succ m ih =>
    intro k f hkm hf
    obtain ⟨f, rfl⟩ : ∃ g, f = g + 1 := ⟨f - 1, by omega⟩
    have hk : k < 16 := by omega
    rw [B_Store_isHeldForWriter_2]
    unfold B_Store_isHeldForWriter_33
    rw [c.2.2, hbe, if_neg (nI_ge (by omega) (by omega)), chk_nI hk (by omega), nI_clamp (by omega), nI_1]
    simp only [RS, hk]
    rw [C_writes hs hk (sx k hk) hkey, ob_s, bI_if, C_holdsFor hs hn sn sl vn, ob_s, bI_if, ih (k + 1) f (by omega) (by omega)]
    have next : ¬ (bt (I (A 127) k) key = true ∧ Hold A I n (nI k)) → bI (HW A I n key b (k + 1)) = bI (HW A I n key b k) := by
      intro hno
      refine bI_c ⟨fun ⟨u, h1, h2, h3, h4⟩ => ⟨u, by omega, h2, h3, h4⟩, fun ⟨u, h1, h2, h3, h4⟩ => ⟨u, ?_, h2, h3, h4⟩⟩
      have : u ≠ k := fun e => hno (e ▸ ⟨h3, h4⟩)
      omega
    by_cases h1 : bt (I (A 127) k) key = true
    · rw [if_pos h1]
      by_cases h2 : Hold A I n (nI k)
      · rw [if_pos h2, bI_t ⟨k, by omega, by omega, h1, h2⟩]
      · rw [if_neg h2, next (fun e => h2 e.2)]
    · rw [if_neg h1, next (fun e => h1 e.1)]
theorem M_logHolds (hs : Sx R A) (hn : n < 6) (vn : VN A I n) {t key : Nat} (ht : t < 16) (hkey : key < 8) : F_Model_logHolds R (A 110) (nI n) (nI t) (nI key) I = some (bI ((bt (I (A 126) t) key = true ∨ bt (I (A 127) t) key = true) ∧ Hold A I n (nI t))) := by
  have RS := hs.all
  unfold F_Model_logHolds B_Model_logHolds_34 B_Model_logHolds_35 B_Model_logHolds_61 B_Model_logHolds_62 B_Model_logHolds_95 B_Model_logHolds_99
  simp only [M_has hs hn vn, M_knows hs hn vn, ob_s, bI_if, chk_nI ht (show 16 < 2 ^ 31 by omega), nI_clamp (show t < 2 ^ 31 by omega), RS]
  have hbk := bk (I (A 126) t ||| I (A 127) t) (k := key) (by omega)
  rw [b_or, Bool.or_eq_true] at hbk
  unfold Hold
  by_cases hb : ((I (A 126) t ||| I (A 127) t) >>> (nI key &&& 31)) &&& 1 = 1
  · have hb2 := hbk.mp hb
    by_cases h1 : HasE A I n 1 (nI t) <;> by_cases h2 : KnsE A I n 2 (nI t) <;> by_cases h3 : KnsE A I n 3 (nI t) <;> by_cases h4 : HasE A I n 2 (nI t) <;> simp [h1, h2, h3, h4, hb, hb2, bI_t, bI_f]
  · have hb2 : ¬ (bt (I (A 126) t) key = true ∨ bt (I (A 127) t) key = true) := fun e => hb (hbk.mpr e)
    rw [bI_f (fun e => hb2 e.1)]
    by_cases h1 : HasE A I n 1 (nI t) <;> by_cases h2 : KnsE A I n 2 (nI t) <;> by_cases h3 : KnsE A I n 3 (nI t) <;> by_cases h4 : HasE A I n 2 (nI t) <;> simp [h1, h2, h3, h4, hb]
end
