section
variable {R : Nat → Nat → Nat} {A : Nat → Nat} {I : St} {n : Nat}
theorem upd_s (f : Nat → Int32) (k : Nat) (v : Int32) : upd f k v k = v := by unfold upd; rw [if_pos rfl]
theorem upd_n (f : Nat → Int32) {k j : Nat} (v : Int32) (h : j ≠ k) : upd f k v j = f j := by unfold upd; rw [if_neg h]
theorem bel8 (R : Nat → Nat → Nat) (J : St) {n : Nat} (hn : n < 8) : F_Model_below R (nI n) 8 J = some 1 := by
  unfold F_Model_below
  rw [if_neg (nI_pos (by omega)), if_neg (show ¬ (8 : Int32) ≤ nI n from nI_ge (a := n) (b := 8) hn (by omega))]
theorem e_write (hs : Sx R A) (sm : Sim A I) {b : Nat} (hb : b ≤ 16) (hbe : I (A 110) 16 = nI b) (x y z : Int32) : (F_Store_write R (A 0) x y z I = some (0, I) ∧ F_Model_write R (A 110) x y z I = some (0, I)) ∨ ∃ t key, t < b ∧ key < 8 ∧ x = nI t ∧ y = nI key ∧ I (A 125) t = 0 ∧ 0 ≤ z.toInt ∧ z.toInt ≤ 999 ∧ F_Store_write R (A 0) x y z I = some (1, up2 I (A (48 + 4 * t)) key z) ∧ F_Model_write R (A 110) x y z (up2 I (A (48 + 4 * t)) key z) = some (1, up2 (up2 (up2 I (A (48 + 4 * t)) key z) (A 127) t (I (A 127) t ||| ((1 : Int32) <<< (nI key &&& 31)))) (A 128) (8 * t + key) z) := by
  have RS := hs.all
  have UL : ∀ w, F_Store_write R (A 0) x y z I = w ↔ _ := fun w => Iff.rfl
  rcases in_tx R sm.1.1 hb hbe x with ⟨h1, h2⟩ | ⟨t, htb, rfl, h1, h2⟩
  · refine Or.inl ⟨?_, ?_⟩
    · unfold F_Store_write B_Store_write_27
      rw [h1, ob_s, if_pos rfl]
    · unfold F_Model_write B_Model_write_40
      rw [h2, ob_s, if_pos rfl]
  · have ht : t < 16 := by omega
    have hu := (sm.2 t ht).1
    rcases in_key R I y with ⟨k1, k2⟩ | ⟨key, hkey, rfl, k1, k2⟩
    · refine Or.inl ⟨?_, ?_⟩
      · unfold F_Store_write B_Store_write_27
        rw [h1, ob_s, if_neg (by decide), k1, ob_s, if_pos rfl]
      · unfold F_Model_write B_Model_write_40
        rw [h2, ob_s, if_neg (by decide), k2, ob_s, if_pos rfl]
    · have goL : F_Store_write R (A 0) (nI t) (nI key) z I = (if I (A 125) t = 0 then (if z < 0 then some (0, I) else if z ≤ 999 then some (1, up2 I (A (48 + 4 * t)) key z) else some (0, I)) else some (0, I)) := by
        unfold F_Store_write B_Store_write_27 B_Store_write_40
        rw [h1, ob_s, if_neg (by decide), k1, ob_s, if_neg (by decide)]
        simp only [chk_nI ht (show 16 < 2 ^ 31 by omega), chk_nI hkey (show 8 < 2 ^ 31 by omega), nI_clamp (show t < 2 ^ 31 by omega), nI_clamp (show key < 2 ^ 31 by omega), RS, ht, ap_s, hu]
      have goM : ∀ J : St, J (A 110) 16 = nI b → F_Model_write R (A 110) (nI t) (nI key) z J = (if J (A 125) t = 0 then (if z < 0 then some (0, J) else if z ≤ 999 then some (1, up2 (up2 J (A 127) t (J (A 127) t ||| ((1 : Int32) <<< (nI key &&& 31)))) (A 128) (8 * t + key) z) else some (0, J)) else some (0, J)) := by
        intro J hJ
        unfold F_Model_write B_Model_write_40
        rw [belt R J htb hb hJ, ob_s, if_neg (by decide), bel8 R J hkey, ob_s, if_neg (by decide)]
        simp only [chk_nI ht (show 16 < 2 ^ 31 by omega), n8, chk_nI (show 8 * t + key < 128 by omega) (show 128 < 2 ^ 31 by omega), nI_clamp (show t < 2 ^ 31 by omega), nI_clamp (show 8 * t + key < 2 ^ 31 by omega), RS, ap_s]
      by_cases l1 : I (A 125) t = 0
      · by_cases l2 : z < 0
        · exact Or.inl ⟨by rw [goL, if_pos l1, if_pos l2], by rw [goM I hbe, if_pos l1, if_pos l2]⟩
        · by_cases l3 : z ≤ 999
          · refine Or.inr ⟨t, key, htb, hkey, rfl, rfl, l1, ?_, ?_, ?_, ?_⟩
            · rw [ilt, t0] at l2; omega
            · rw [ile, show (999 : Int32).toInt = 999 from by decide] at l3; exact l3
            · rw [goL, if_pos l1, if_neg l2, if_pos l3]
            · rw [goM _ (by rw [V_row hs _ key z (p := 48 + 4 * t) (q := 110) (by omega) (by omega) (by omega)]; exact hbe), V_row hs _ key z (p := 48 + 4 * t) (q := 125) (by omega) (by omega) (by omega), V_row hs _ key z (p := 48 + 4 * t) (q := 127) (by omega) (by omega) (by omega), if_pos l1, if_neg l2, if_pos l3]
          · exact Or.inl ⟨by rw [goL, if_pos l1, if_neg l2, if_neg l3], by rw [goM I hbe, if_pos l1, if_neg l2, if_neg l3]⟩
      · exact Or.inl ⟨by rw [goL, if_neg l1], by rw [goM I hbe, if_neg l1]⟩
/-- the reference's search for a held writer, and what comes behind it -/
theorem M_rd1 (hs : Sx R A) (hn : n < 6) (vn : VN A I n) {b t key g : Nat} (hb : b ≤ 16) (hbe : I (A 110) 16 = nI b) (ht : t < 16) (hkey : key < 8) (hw : ¬ bt (I (A 127) t) key = true) : ∀ m k f, k + m = b → m < f → B_Model_read_101 R f (A 110) (nI t) (nI key) (nI g) (nI n) (nI k) I = cif (HW A I n key b k) (some (-4, I)) (B_Model_read_101 R 1 (A 110) (nI t) (nI key) (nI g) (nI n) (nI b) I) := by
  have RS := hs.all
  intro m
  induction m with
  | zero =>
    intro k f hkm hf
    obtain ⟨f, rfl⟩ : ∃ g, f = g + 1 := ⟨f - 1, by omega⟩
    have : k = b := by omega
    subst this
    rw [cif_f (fun ⟨u, h1, h2, h3, h4⟩ => by omega), B_Model_read_101, B_Model_read_101, hbe, if_pos (nI_le (by omega) (by omega)), if_pos (nI_le (by omega) (by omega))]
  | succ m ih =>
    intro k f hkm hf
    obtain ⟨f, rfl⟩ : ∃ g, f = g + 1 := ⟨f - 1, by omega⟩
    have hk : k < 16 := by omega
    conv => lhs; rw [B_Model_read_101]
    unfold B_Model_read_146
    rw [hbe, if_neg (nI_ge (by omega) (by omega)), chk_nI hk (by omega), nI_clamp (by omega), nI_1]
    simp only [RS]
    rw [M_logHolds hs hn vn hk hkey, ob_s, bI_if, ih (k + 1) f (by omega) (by omega)]
    have next : ¬ (bt (I (A 127) k) key = true ∧ Hold A I n (nI k)) → cif (HW A I n key b (k + 1)) (some ((-4 : Int32), I)) (B_Model_read_101 R 1 (A 110) (nI t) (nI key) (nI g) (nI n) (nI b) I) = cif (HW A I n key b k) (some ((-4 : Int32), I)) (B_Model_read_101 R 1 (A 110) (nI t) (nI key) (nI g) (nI n) (nI b) I) := by
      intro hno
      by_cases h : HW A I n key b (k + 1)
      · rw [cif_t h]
        obtain ⟨u, h1, h2, h3, h4⟩ := h
        rw [cif_t ⟨u, by omega, h2, h3, h4⟩]
      · rw [cif_f h, cif_f]
        rintro ⟨u, h1, h2, h3, h4⟩
        have : u ≠ k := fun e => hno (e ▸ ⟨h3, h4⟩)
        exact h ⟨u, by omega, h2, h3, h4⟩
    by_cases e : nI k = nI t
    · rw [if_pos e]
      have := nI_inj (by omega) (by omega) e
      subst this
      exact next (fun q => hw q.1)
    · rw [if_neg e]
      have hbk := bk (I (A 127) k) (k := key) (by omega)
      by_cases h1 : (I (A 127) k >>> (nI key &&& 31)) &&& 1 = 1
      · rw [if_pos h1]
        have h1' := hbk.mp h1
        by_cases h2 : Hold A I n (nI k)
        · rw [if_pos ⟨Or.inr h1', h2⟩, cif_t ⟨k, by omega, by omega, h1', h2⟩]
        · rw [if_neg (fun q => h2 q.2)]
          exact next (fun q => h2 q.2)
      · rw [if_neg h1]
        exact next (fun q => h1 (hbk.mpr q.1))
/-- the reference's value: any time -/
theorem M_rd2 (hs : Sx R A) (hn : n < 6) (vn : VN A I n) (eo : EO A I n) {key kn : Nat} (hkey : key < 8) (hkn : I (A 119) n = nI kn) (hkl : kn ≤ (I (A 118) n).toNatClampNeg) : ∀ m k f, k + m = kn → m < f → B_Model_read_201 R f (A 110) (nI key) (nI n) (vl A I n key 2147483647 k) (nI k) I = some (vl A I n key 2147483647 kn, I) := by
  have RS := hs.all
  have hl : (I (A 118) n).toNatClampNeg ≤ 60 := by
    obtain ⟨ln, kn, v1, v2, v3, v4⟩ := vn
    rw [v1, nI_clamp (by omega)]; exact v4
  intro m
  induction m with
  | zero =>
    intro k f hkm hf
    obtain ⟨f, rfl⟩ : ∃ g, f = g + 1 := ⟨f - 1, by omega⟩
    have : k = kn := by omega
    subst this
    rw [B_Model_read_201, chk_nI hn (by omega), nI_clamp (by omega)]
    simp only [RS]
    rw [hkn, if_pos (nI_le (by omega) (by omega))]
  | succ m ih =>
    intro k f hkm hf
    obtain ⟨f, rfl⟩ : ∃ g, f = g + 1 := ⟨f - 1, by omega⟩
    rw [B_Model_read_201]
    unfold B_Model_read_253
    rw [chk_nI hn (by omega), nI_clamp (by omega)]
    simp only [RS]
    rw [hkn, if_neg (nI_ge (by omega) (by omega)), M_isVersion hs hn vn eo hkey (by omega), ob_s, bI_if, n60, nI_1, chk_nI (by omega) (by omega), nI_clamp (by omega)]
    have hi := ih (k + 1) f (by omega) (by omega)
    by_cases hv : Vr A I n key k
    · obtain ⟨t, h1, h2, -⟩ := eo k (by omega) (fun e => by rcases hv.1 with h | ⟨h, -⟩ <;> rw [h] at e <;> exact absurd e (by decide))
      have e1 : vl A I n key 2147483647 (k + 1) = I (A 128) (8 * t + key) := by
        show cif _ _ _ = _
        rw [cif_t ⟨hv, by rw [ile, show (2147483647 : Int32).toInt = 2147483647 from by decide]; exact Int32.toInt_le _⟩, h2, nI_clamp (by omega)]
      rw [if_pos hv, h2, n8, chk_nI (by omega) (by omega), nI_clamp (by omega), ← e1]
      exact hi
    · have e1 : vl A I n key 2147483647 (k + 1) = vl A I n key 2147483647 k := by
        show cif _ _ _ = _
        rw [cif_f (fun e => hv e.1)]
      rw [if_neg hv, ← e1]
      exact hi
end
