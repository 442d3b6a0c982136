section
variable {R : Nat → Nat → Nat} {A : Nat → Nat} {I J : St} {n t : Nat}
/-- t must wait -/
def MW (A : Nat → Nat) (I : St) (t b : Nat) : Prop := ∃ key, key < 8 ∧ bt (I (A 127) t) key = true ∧ ∃ n, n < 6 ∧ rdy A I (key / 4) = nI n ∧ Wt A I t key n b 0
theorem nLk {key : Nat} (hl : ¬ Lk A I t) (hkey : key < 8) (hw : bt (I (A 127) t) key = true) : ∃ n, n < 6 ∧ n / 3 = key / 4 ∧ rdy A I (key / 4) = nI n := by
  rcases rdy_c A I (q := key / 4) (by omega) with ⟨r1, r2⟩ | ⟨n, r1, hn, r3, r4⟩
  · exfalso
    have hu : Us A I t (key / 4) := Or.inr ⟨key, by omega, by omega, hw⟩
    rcases (show key / 4 = 0 ∨ key / 4 = 1 by omega) with e | e <;> rw [e] at hu r1
    · exact hl (Or.inl ⟨hu, r1⟩)
    · exact hl (Or.inr ⟨hu, r1⟩)
  · exact ⟨n, hn, r1, r3⟩
theorem C_mw2 (hs : Sx R A) (sm : Sim A I) (ht : t < 16) : ∀ m k f, k + m = t → m < f → B_Store_mustWait_68 R I f (A 0) (nI t) (A (46 + 4 * t)) (nI k) = some (bI (∃ u, k ≤ u ∧ u < t ∧ HR A I u t)) := by
  have RS := hs.all
  intro m
  induction m with
  | zero =>
    intro k f hkm hf
    obtain ⟨f, rfl⟩ : ∃ g, f = g + 1 := ⟨f - 1, by omega⟩
    rw [B_Store_mustWait_68, if_pos (nI_le (by omega) (by omega)), bI_f (fun ⟨u, h1, h2, h3⟩ => by omega)]
  | succ m ih =>
    intro k f hkm hf
    obtain ⟨f, rfl⟩ : ∃ g, f = g + 1 := ⟨f - 1, by omega⟩
    have hk : k < 16 := by omega
    rw [B_Store_mustWait_68, if_neg (nI_ge (by omega) (by omega)), chk_nI hk (by omega), nI_clamp (by omega), nI_1]
    simp only [RS, hk]
    rw [C_hra hs sm.1 hk ht (sm.2 k hk) (sm.2 t ht).w, ob_s, bI_if, ih (k + 1) f (by omega) (by omega)]
    by_cases h : HR A I k t
    · rw [if_pos h, bI_t (P := ∃ u, k ≤ u ∧ u < t ∧ HR A I u t) ⟨k, Nat.le_refl _, by omega, h⟩]
    · rw [if_neg h]
      congr 1
      exact bI_c ⟨fun ⟨u, h1, h2⟩ => ⟨u, by omega, h2⟩, fun ⟨u, h1, h2, h3⟩ => ⟨u, by
        have : u ≠ k := fun e => h (e ▸ h3)
        omega, h2, h3⟩⟩
theorem C_mw1 (hs : Sx R A) (sm : Sim A I) (ht : t < 16) (hl : ¬ Lk A I t) {b : Nat} (hb : b ≤ 16) (hbe : I (A 110) 16 = nI b) : ∀ m k f, k + m = 8 → m < f → B_Store_mustWait_9 R I f (A 0) (nI t) (A (46 + 4 * t)) (nI k) = some (bI ((∃ key, k ≤ key ∧ key < 8 ∧ bt (I (A 127) t) key = true ∧ ∃ n, n < 6 ∧ rdy A I (key / 4) = nI n ∧ HO A I n key b t 0) ∨ ∃ u, u < t ∧ HR A I u t)) := by
  have RS := hs.all
  have sa := sm.1
  intro m
  induction m with
  | zero =>
    intro k f hkm hf
    obtain ⟨f, rfl⟩ : ∃ g, f = g + 1 := ⟨f - 1, by omega⟩
    have h2 := C_mw2 hs sm ht t 0 100 (by omega) (by omega)
    rw [show nI 0 = (0 : Int32) from rfl] at h2
    rw [B_Store_mustWait_9, if_pos (show (8 : Int32) ≤ nI k from nI_le (a := 8) (by omega) (by omega)), h2]
    congr 1
    exact bI_c ⟨fun ⟨u, h1, h3⟩ => Or.inr ⟨u, h3⟩, fun h => h.elim (fun ⟨key, h1, h3, _⟩ => by omega) (fun ⟨u, h3⟩ => ⟨u, by omega, h3⟩)⟩
  | succ m ih =>
    intro k f hkm hf
    obtain ⟨f, rfl⟩ : ∃ g, f = g + 1 := ⟨f - 1, by omega⟩
    have hk : k < 8 := by omega
    rw [B_Store_mustWait_9]
    unfold B_Store_mustWait_60 F_Store_groupOfKey
    rw [if_neg (show ¬ (8 : Int32) ≤ nI k from nI_ge (b := 8) (by omega) (by omega)), nd4 (by omega), ob_s, C_readyNode hs sa (q := k / 4) (by omega), ob_s, C_writes hs ht (sm.2 t ht).w hk, ob_s, bI_if, nI_1, ih (k + 1) f (by omega) (by omega)]
    have nxt : ¬ (bt (I (A 127) t) k = true ∧ ∃ n, n < 6 ∧ rdy A I (k / 4) = nI n ∧ HO A I n k b t 0) → (some (bI ((∃ key, k + 1 ≤ key ∧ key < 8 ∧ bt (I (A 127) t) key = true ∧ ∃ n, n < 6 ∧ rdy A I (key / 4) = nI n ∧ HO A I n key b t 0) ∨ ∃ u, u < t ∧ HR A I u t)) : Option Int32) = some (bI ((∃ key, k ≤ key ∧ key < 8 ∧ bt (I (A 127) t) key = true ∧ ∃ n, n < 6 ∧ rdy A I (key / 4) = nI n ∧ HO A I n key b t 0) ∨ ∃ u, u < t ∧ HR A I u t)) := fun hno => by
      congr 1
      refine bI_c ⟨fun h => h.elim (fun ⟨key, h1, h2⟩ => Or.inl ⟨key, by omega, h2⟩) Or.inr, fun h => h.elim (fun ⟨key, h1, h2, h3⟩ => Or.inl ⟨key, ?_, h2, h3⟩) Or.inr⟩
      have : key ≠ k := fun e => hno (e ▸ h3)
      omega
    by_cases l1 : bt (I (A 127) t) k = true
    · obtain ⟨n, hn, hn3, r3⟩ := nLk hl hk l1
      obtain ⟨sn, sl, vn⟩ := sa.2 n hn
      have ho : F_Store_isHeldForOther R (A 0) (A (5 + 7 * n)) (nI k) (nI t) I = some (bI (HO A I n k b t 0)) := by
        unfold F_Store_isHeldForOther
        have h := C_ho hs hn sa.1 sn sl vn sm.2 hb hbe hk ht b 0 100 (by omega) (by omega)
        rw [show nI 0 = (0 : Int32) from rfl] at h
        exact h
      rw [if_pos l1, r3, if_neg (nI_nm1 (by omega)), chk_nI hn (by omega), nI_clamp (by omega)]
      simp only [RS, hn]
      rw [ho, ob_s, bI_if]
      by_cases l2 : HO A I n k b t 0
      · rw [if_pos l2]
        exact congrArg some (bI_t (Or.inl ⟨k, Nat.le_refl _, hk, l1, n, hn, r3, l2⟩)).symm
      · rw [if_neg l2, nxt (fun ⟨_, m', h1, h2, h3⟩ => l2 (by rw [rdy_1 hn h1 r3 h2]; exact h3))]
    · rw [if_neg l1, nxt (fun h => l1 h.1)]
theorem C_mustWait (hs : Sx R A) (sm : Sim A I) {b : Nat} (hb : b ≤ 16) (htb : t < b) (hbe : I (A 110) 16 = nI b) (hl : ¬ Lk A I t) : F_Store_mustWait R (A 0) (nI t) I = some (bI (MW A I t b)) := by
  have RS := hs.all
  have ht : t < 16 := by omega
  have h := C_mw1 hs sm ht hl hb hbe 8 0 100 (by omega) (by omega)
  rw [show nI 0 = (0 : Int32) from rfl] at h
  unfold F_Store_mustWait
  rw [chk_nI ht (by omega), nI_clamp (by omega)]
  simp only [RS, ht]
  rw [h]
  congr 1
  refine bI_c ⟨?_, ?_⟩
  · rintro (⟨key, _, h2, h3, n, hn, r3, u, u1, u2, u3, u4⟩ | ⟨u, u1, u2, u3, k, k1, k2, k3, k4⟩)
    · exact ⟨key, h2, h3, n, hn, r3, u, u1, u2, u3, Or.inr u4⟩
    · obtain ⟨n, hn, hn3, r3⟩ := nLk hl k1 k2
      exact ⟨k, k1, k2, n, hn, r3, u, by omega, by omega, u2, Or.inl ⟨u1, u3, k3, k4⟩⟩
  · rintro ⟨key, h2, h3, n, hn, r3, u, u1, u2, u3, u4 | u4⟩
    · exact Or.inr ⟨u, u4.1, u3, u4.2.1, key, h2, h3, u4.2.2.1, u4.2.2.2⟩
    · exact Or.inl ⟨key, by omega, h2, h3, n, hn, r3, u, u1, u2, u3, u4⟩
theorem M_mw1 (hs : Sx R A) (sa : VA A I) (ht : t < 16) (hl : ¬ Lk A I t) {b : Nat} (hb : b ≤ 16) (hbe : I (A 110) 16 = nI b) : ∀ m k f, k + m = 8 → m < f → B_Model_commit_121 R f (A 110) (nI t) (nI k) I = cif (∃ key, k ≤ key ∧ key < 8 ∧ bt (I (A 127) t) key = true ∧ ∃ n, n < 6 ∧ rdy A I (key / 4) = nI n ∧ Wt A I t key n b 0) (some (-4, I)) (B_Model_commit_161 R 100 (A 110) (nI t) 0 I) := by
  have RS := hs.all
  intro m
  induction m with
  | zero =>
    intro k f hkm hf
    obtain ⟨f, rfl⟩ : ∃ g, f = g + 1 := ⟨f - 1, by omega⟩
    rw [B_Model_commit_121, if_pos (show (8 : Int32) ≤ nI k from nI_le (a := 8) (by omega) (by omega)), cif_f (fun ⟨key, h1, h2, _⟩ => by omega)]
  | succ m ih =>
    intro k f hkm hf
    obtain ⟨f, rfl⟩ : ∃ g, f = g + 1 := ⟨f - 1, by omega⟩
    have hk : k < 8 := by omega
    have hbk := bk (I (A 127) t) (k := k) (by omega)
    rw [B_Model_commit_121]
    unfold B_Model_commit_153
    rw [if_neg (show ¬ (8 : Int32) ≤ nI k from nI_ge (b := 8) (by omega) (by omega)), chk_nI ht (by omega), nI_clamp (by omega), nI_1, ih (k + 1) f (by omega) (by omega)]
    simp only [RS]
    have nxt : ¬ (bt (I (A 127) t) k = true ∧ ∃ n, n < 6 ∧ rdy A I (k / 4) = nI n ∧ Wt A I t k n b 0) → ∀ (x y : Option (Int32 × St)), cif (∃ key, k + 1 ≤ key ∧ key < 8 ∧ bt (I (A 127) t) key = true ∧ ∃ n, n < 6 ∧ rdy A I (key / 4) = nI n ∧ Wt A I t key n b 0) x y = cif (∃ key, k ≤ key ∧ key < 8 ∧ bt (I (A 127) t) key = true ∧ ∃ n, n < 6 ∧ rdy A I (key / 4) = nI n ∧ Wt A I t key n b 0) x y := fun hno x y => by
      by_cases q : ∃ key, k + 1 ≤ key ∧ key < 8 ∧ bt (I (A 127) t) key = true ∧ ∃ n, n < 6 ∧ rdy A I (key / 4) = nI n ∧ Wt A I t key n b 0
      · rw [cif_t q, cif_t (q.elim fun key h => ⟨key, by omega, h.2⟩)]
      · rw [cif_f q, cif_f]
        rintro ⟨key, h1, h2, h3⟩
        have : key ≠ k := fun e => hno (e ▸ h3)
        exact q ⟨key, by omega, h2, h3⟩
    by_cases l1 : bt (I (A 127) t) k = true
    · obtain ⟨n, hn, hn3, r3⟩ := nLk hl hk l1
      have hw : F_Model_waits R (A 110) (nI t) (nI k) I = some (bI (Wt A I t k n b 0)) := by
        unfold F_Model_waits
        rw [nd4 (by omega), M_ready hs sa (q := k / 4) (by omega), ob_s, r3]
        have h := M_wt hs sa hn hb hbe hk ht b 0 100 False (by omega) (by omega)
        rw [bI_f (P := False) (fun h => h), show nI 0 = (0 : Int32) from rfl] at h
        rw [h]
        congr 1
        exact bI_c ⟨fun h => h.elim (fun q => q.elim) id, Or.inr⟩
      rw [if_pos (hbk.mpr l1), hw, ob_s, bI_if]
      by_cases l2 : Wt A I t k n b 0
      · rw [if_pos l2, cif_t ⟨k, Nat.le_refl _, hk, l1, n, hn, r3, l2⟩]
      · rw [if_neg l2, nxt (fun ⟨_, m', h1, h2, h3⟩ => l2 (by rw [rdy_1 hn h1 r3 h2]; exact h3))]
    · rw [if_neg (fun h => l1 (hbk.mp h)), nxt (fun h => l1 h.1)]
end
