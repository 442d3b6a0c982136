section
def Opn (A : Nat → Nat) (I : St) (n k : Nat) : Prop := I (A 122) (60 * n + k) = 1 ∧ ¬ (KnsE A I n 2 (I (A 123) (60 * n + k)) ∨ KnsE A I n 3 (I (A 123) (60 * n + k)))
/-- m entries from k on: the safe stamp out of x -/
noncomputable def sfr (A : Nat → Nat) (I : St) (n : Nat) : Nat → Nat → Int32 → Int32
  | 0, _, x => x
  | m + 1, k, x => sfr A I n m (k + 1) (cif (Opn A I n k) (imin x (I (A 121) (60 * n + k) - 1)) x)
noncomputable def sf (A : Nat → Nat) (I : St) (n : Nat) : Int32 := cif (I (A 119) n = 0) (-1) (sfr A I n (I (A 119) n).toNatClampNeg 0 (I (A 121) (60 * n + ((I (A 119) n).toNatClampNeg - 1))))
variable {R : Nat → Nat → Nat} {A : Nat → Nat} {I : St} {n : Nat}
theorem C_sf (hs : Sx R A) (hn : n < 6) (sn : SN A I n) (sl : SL A I n) (vn : VN A I n) {kn : Nat} (hk : kn ≤ 60) (hkn : I (A 119) n = nI kn) : ∀ m k f (x : Int32), k + m = kn → m < f → B_Log_safeStamp_23 R I f (A (5 + 7 * n)) x (nI k) = some (sfr A I n m k x) := by
  have RS := hs.all
  have hl := sn.2.2.2.2.2.2.2.2.2
  intro m
  induction m with
  | zero =>
    intro k f x hkm hf
    obtain ⟨f, rfl⟩ : ∃ g, f = g + 1 := ⟨f - 1, by omega⟩
    rw [B_Log_safeStamp_23, hl, hkn, if_pos (nI_le (by omega) (by omega))]
    rfl
  | succ m ih =>
    intro k f x hkm hf
    obtain ⟨f, rfl⟩ : ∃ g, f = g + 1 := ⟨f - 1, by omega⟩
    obtain ⟨-, e1, e2, e3, -⟩ := sl k (by omega)
    rw [B_Log_safeStamp_23]
    unfold B_Log_safeStamp_67
    rw [hl, hkn, if_neg (nI_ge (by omega) (by omega)), chk_nI (by omega) (by omega), chk_nI (by omega) (by omega), nI_clamp (by omega), nI_1]
    simp only [RS, hn, e1, e2, e3]
    rw [C_knowsEndOf hs hn sn sl vn, ob_s, bI_if, chk_nI (by omega) (by omega), ih (k + 1) f _ (by omega) (by omega), ih (k + 1) f _ (by omega) (by omega)]
    show _ = some (sfr A I n m (k + 1) (cif (Opn A I n k) (imin x (I (A 121) (60 * n + k) - 1)) x))
    by_cases h1 : I (A 122) (60 * n + k) = 1
    · rw [if_pos h1]
      by_cases h2 : KnsE A I n 2 (I (A 123) (60 * n + k)) ∨ KnsE A I n 3 (I (A 123) (60 * n + k))
      · rw [if_pos h2, cif_f (fun h => h.2 h2)]
      · rw [if_neg h2, cif_t ⟨h1, h2⟩]
    · rw [if_neg h1, cif_f (fun h => h1 h.1)]
theorem C_safeStamp (hs : Sx R A) (hn : n < 6) (sn : SN A I n) (sl : SL A I n) (vn : VN A I n) : F_Log_safeStamp R (A (5 + 7 * n)) I = some (sf A I n) := by
  have RS := hs.all
  have vn' := vn
  obtain ⟨ln, kn, v1, v2, v3, v4⟩ := vn
  have hl := sn.2.2.2.2.2.2.2.2.2
  unfold F_Log_safeStamp sf
  rw [hl, v2, nI_clamp (by omega)]
  by_cases h : kn = 0
  · subst h
    rw [if_pos (show nI 0 = (0 : Int32) from rfl), cif_t (P := nI 0 = 0) rfl]
  · have hz : ¬ nI kn = 0 := nI_ne0 (by omega) (by omega)
    obtain ⟨j, rfl⟩ : ∃ j, kn = j + 1 := ⟨kn - 1, by omega⟩
    rw [if_neg hz, cif_f hz, nI_pred, chk_nI (by omega) (by omega), nI_clamp (by omega)]
    simp only [RS, hn]
    have e := C_sf hs hn sn sl vn' (by omega) v2 (j + 1) 0 100 (I (A (7 + 7 * n)) j) (by omega) (by omega)
    rw [show nI 0 = (0 : Int32) from rfl] at e
    rw [e, (sl j (by omega)).2.1]
    rfl
theorem M_sf (hs : Sx R A) (hn : n < 6) (vn : VN A I n) (eb : EB A I n) {kn : Nat} (hk : kn ≤ 60) (hkn : I (A 119) n = nI kn) (hkl : kn ≤ (I (A 118) n).toNatClampNeg) : ∀ m k f (x : Int32), k + m = kn → m < f → B_Model_safe_41 R I f (A 110) (nI n) x (nI k) = some (sfr A I n m k x) := by
  have RS := hs.all
  intro m
  induction m with
  | zero =>
    intro k f x hkm hf
    obtain ⟨f, rfl⟩ : ∃ g, f = g + 1 := ⟨f - 1, by omega⟩
    rw [B_Model_safe_41, chk_nI hn (by omega), nI_clamp (by omega)]
    simp only [RS]
    rw [hkn, if_pos (nI_le (by omega) (by omega))]
    rfl
  | succ m ih =>
    intro k f x hkm hf
    obtain ⟨f, rfl⟩ : ∃ g, f = g + 1 := ⟨f - 1, by omega⟩
    obtain ⟨e1, e2, -⟩ := eb k (by omega)
    rw [B_Model_safe_41]
    unfold B_Model_safe_106 B_Model_safe_107 B_Model_safe_137 B_Model_safe_138
    rw [chk_nI hn (by omega), nI_clamp (by omega)]
    simp only [RS, n60, chk_nI (show 60 * n + k < 360 by omega) (show 360 < 2 ^ 31 by omega), nI_clamp (show 60 * n + k < 2 ^ 31 by omega), nI_1]
    rw [hkn, if_neg (nI_ge (by omega) (by omega)), M_knows hs hn vn, M_knows hs hn vn, ob_s, ob_s, bI_if, bI_if]
    simp only [ih (k + 1) f _ (show k + 1 + m = kn by omega) (show m < f by omega)]
    show _ = some (sfr A I n m (k + 1) (cif (Opn A I n k) (imin x (I (A 121) (60 * n + k) - 1)) x))
    by_cases h1 : I (A 122) (60 * n + k) = 1
    · rw [if_pos h1]
      by_cases h2 : KnsE A I n 2 (I (A 123) (60 * n + k))
      · rw [if_pos h2, if_pos trivial, cif_f (fun h => h.2 (Or.inl h2))]
      · rw [if_neg h2]
        by_cases h3 : KnsE A I n 3 (I (A 123) (60 * n + k))
        · rw [if_pos h3, if_pos trivial, cif_f (fun h => h.2 (Or.inr h3))]
        · rw [if_neg h3, if_neg (by decide), cif_t (P := Opn A I n k) ⟨h1, fun h => h.elim h2 h3⟩]
          unfold imin
          have es : (I (A 121) (60 * n + k) - 1).toInt = (I (A 121) (60 * n + k)).toInt - 1 := by rw [is9 (by rw [t1]; omega) (by rw [t1]; omega), t1]
          by_cases h4 : x < I (A 121) (60 * n + k)
          · rw [if_pos h4, if_neg (fun e => by rw [ilt] at e h4; omega)]
          · rw [if_neg h4, if_pos (by rw [ilt] at h4 ⊢; omega)]
    · rw [if_neg h1, if_pos trivial, cif_f (fun h => h1 h.1)]
theorem M_safe (hs : Sx R A) (hn : n < 6) (vn : VN A I n) (eb : EB A I n) : F_Model_safe R (A 110) (nI n) I = some (sf A I n) := by
  have RS := hs.all
  have vn' := vn
  obtain ⟨ln, kn, v1, v2, v3, v4⟩ := vn
  have hb : F_Model_below R (nI n) 6 I = some 1 := by
    unfold F_Model_below
    rw [if_neg (nI_pos (by omega)), if_neg (show ¬ (6 : Int32) ≤ nI n from nI_ge (a := n) (b := 6) (by omega) (by omega))]
  unfold F_Model_safe B_Model_safe_18 sf
  rw [hb, ob_s, if_neg (by decide), chk_nI hn (by omega), chk_nI hn (by omega), nI_clamp (by omega)]
  simp only [RS]
  rw [v2, nI_clamp (by omega)]
  by_cases h : kn = 0
  · subst h
    rw [if_pos (show nI 0 = (0 : Int32) from rfl), cif_t (P := nI 0 = 0) rfl]
  · have hz : ¬ nI kn = 0 := nI_ne0 (by omega) (by omega)
    obtain ⟨j, rfl⟩ : ∃ j, kn = j + 1 := ⟨kn - 1, by omega⟩
    rw [if_neg hz, cif_f hz, n60, show 60 * n + (j + 1) = 60 * n + j + 1 from rfl, nI_pred, chk_nI (by omega) (by omega), nI_clamp (by omega)]
    have e := M_sf hs hn vn' eb (by omega) v2 (by rw [v1, nI_clamp (by omega)]; exact v3) (j + 1) 0 100 (I (A 121) (60 * n + j)) (by omega) (by omega)
    rw [show nI 0 = (0 : Int32) from rfl] at e
    rw [e]
    rfl
end
section
/-- entries name transactions that have begun -/
def EO (A : Nat → Nat) (I : St) (n : Nat) : Prop := ∀ j, j < (I (A 118) n).toNatClampNeg → ¬ I (A 122) (60 * n + j) = 0 → ∃ t, t < 16 ∧ I (A 123) (60 * n + j) = nI t ∧ nI t < I (A 110) 16
/-- entry k is a version of the key -/
def Vr (A : Nat → Nat) (I : St) (n key k : Nat) : Prop := (I (A 122) (60 * n + k) = 2 ∨ (I (A 122) (60 * n + k) = 3 ∧ ¬ I (A 124) (60 * n + k) = -1)) ∧ bt (I (A 127) (I (A 123) (60 * n + k)).toNatClampNeg) key = true
def vst (A : Nat → Nat) (I : St) (n k : Nat) : Int32 := if I (A 122) (60 * n + k) = 2 then I (A 121) (60 * n + k) else I (A 124) (60 * n + k)
variable {R : Nat → Nat → Nat} {A : Nat → Nat} {I : St} {n : Nat}
theorem vst_n (eb : EB A I n) {key k : Nat} (hk : k < (I (A 118) n).toNatClampNeg) (h : Vr A I n key k) : ¬ vst A I n k = -1 := by
  obtain ⟨e1, -⟩ := eb k hk
  unfold vst
  rcases h.1 with h1 | ⟨h1, h2⟩
  · rw [if_pos h1]
    intro e
    rw [e, tm1] at e1
    omega
  · rw [if_neg (fun e => by rw [h1] at e; exact absurd e (by decide))]
    exact h2
theorem M_isVersion (hs : Sx R A) (hn : n < 6) (vn : VN A I n) (eo : EO A I n) {key k : Nat} (hkey : key < 8) (hk : k < (I (A 118) n).toNatClampNeg) : F_Model_isVersion R (A 110) (nI n) (nI k) (nI key) I = some (bI (Vr A I n key k)) := by
  have RS := hs.all
  obtain ⟨ln, kn, v1, v2, v3, v4⟩ := vn
  have hk2 := hk
  rw [v1, nI_clamp (by omega)] at hk2
  unfold F_Model_isVersion B_Model_isVersion_41 B_Model_isVersion_45 B_Model_isVersion_46 B_Model_isVersion_77
  simp only [RS, n60, chk_nI (show 60 * n + k < 360 by omega) (show 360 < 2 ^ 31 by omega), nI_clamp (show 60 * n + k < 2 ^ 31 by omega)]
  have yes : (I (A 122) (60 * n + k) = 2 ∨ (I (A 122) (60 * n + k) = 3 ∧ ¬ I (A 124) (60 * n + k) = -1)) → (chk (I (A 123) (60 * n + k)) 16 (if ((I (A 127) (I (A 123) (60 * n + k)).toNatClampNeg >>> (nI key &&& 31)) &&& (1 : Int32)) = (1 : Int32) then some (1 : Int32) else some 0)) = some (bI (Vr A I n key k)) := by
    intro h
    obtain ⟨t, h1, h2, h3⟩ := eo k hk (fun e => by rcases h with h | ⟨h, -⟩ <;> rw [h] at e <;> exact absurd e (by decide))
    rw [h2, chk_nI h1 (by omega)]
    by_cases hb : ((I (A 127) (nI t).toNatClampNeg >>> (nI key &&& 31)) &&& (1 : Int32)) = (1 : Int32)
    · rw [if_pos hb, bI_t ⟨h, by rw [h2]; exact (bk _ (by omega)).mp hb⟩]
    · rw [if_neg hb, bI_f (fun e => hb ((bk _ (by omega)).mpr (by have := e.2; rw [h2] at this; exact this)))]
  by_cases h2 : I (A 122) (60 * n + k) = 2
  · rw [if_pos h2, if_neg (by decide)]
    exact yes (Or.inl h2)
  · rw [if_neg h2]
    by_cases h3 : I (A 122) (60 * n + k) = 3
    · rw [if_pos h3]
      by_cases h4 : I (A 124) (60 * n + k) = -1
      · rw [if_pos h4, if_pos trivial, bI_f (fun e => e.1.elim h2 (fun q => q.2 h4))]
      · rw [if_neg h4, if_neg (by decide)]
        exact yes (Or.inr ⟨h3, h4⟩)
    · rw [if_neg h3, if_pos trivial, bI_f (fun e => e.1.elim h2 (fun q => h3 q.1))]
theorem M_versionStamp (hs : Sx R A) (hn : n < 6) {k : Nat} (hk : k < 60) : F_Model_versionStamp R (A 110) (nI (60 * n + k)) I = some (vst A I n k) := by
  have RS := hs.all
  unfold F_Model_versionStamp vst
  simp only [RS, chk_nI (show 60 * n + k < 360 by omega) (show 360 < 2 ^ 31 by omega), nI_clamp (show 60 * n + k < 2 ^ 31 by omega)]
  by_cases h : I (A 122) (60 * n + k) = 2
  · rw [if_pos h, if_pos h]
  · rw [if_neg h, if_neg h]
theorem C_versionStamp (hs : Sx R A) (hn : n < 6) (c : SC A I) (sn : SN A I n) (sl : SL A I n) (vn : VN A I n) (sx : ∀ t, t < 16 → SW A I t) (eo : EO A I n) (eb : EB A I n) (hbn : I (A 110) 16 ≤ 16) {key k : Nat} (hkey : key < 8) (hk : k < (I (A 118) n).toNatClampNeg) : F_Store_versionStamp R (A 0) (A (5 + 7 * n)) (nI k) (nI key) I = some (cif (Vr A I n key k) (vst A I n k) (-1)) := by
  have RS := hs.all
  obtain ⟨ln, kn, v1, v2, v3, v4⟩ := vn
  have hk2 := hk
  rw [v1, nI_clamp (by omega)] at hk2
  obtain ⟨-, e1, e2, e3, e4⟩ := sl k (by omega)
  unfold F_Store_versionStamp B_Store_versionStamp_31 F_Store_isTransaction B_Store_isTransaction_16
  simp only [RS, hn, chk_nI (show k < 60 by omega) (show 60 < 2 ^ 31 by omega), nI_clamp (show k < 2 ^ 31 by omega), e1, e2, e3, e4, c.2.2]
  by_cases h0 : I (A 122) (60 * n + k) = 0
  · have nv : ¬ Vr A I n key k := fun e => by rcases e.1 with h | ⟨h, -⟩ <;> rw [h0] at h <;> exact absurd h (by decide)
    rw [cif_f nv]
    by_cases q1 : I (A 123) (60 * n + k) < 0
    · rw [if_pos q1, ob_s, if_pos rfl]
    · rw [if_neg q1]
      by_cases q2 : I (A 110) 16 ≤ I (A 123) (60 * n + k)
      · rw [if_pos q2, ob_s, if_pos rfl]
      · rw [if_neg q2, ob_s, if_neg (by decide)]
        obtain ⟨t, ht, he⟩ : ∃ t : Nat, t < 16 ∧ I (A 123) (60 * n + k) = nI t := by
          rcases pk_ix (I (A 123) (60 * n + k)) (n := 16) (by omega) with h | h | h
          · exact absurd h q1
          · rw [ile] at h hbn q2
            rw [nI_toInt (by omega)] at h
            have : (16 : Int32).toInt = 16 := by decide
            omega
          · exact h
        rw [he, chk_nI ht (by omega), nI_clamp (by omega)]
        simp only [RS, ht]
        rw [C_writes hs ht (sx t ht) hkey, ob_s, bI_if]
        by_cases hb : bt (I (A 127) t) key = true
        · rw [if_pos hb, h0, if_neg (by decide), if_neg (by decide)]
        · rw [if_neg hb]
  · obtain ⟨t, ht, he, hlt⟩ := eo k hk h0
    rw [he, if_neg (nI_pos (by omega)), if_neg (fun e => by rw [ile] at e; rw [ilt] at hlt; omega), ob_s, if_neg (by decide), chk_nI ht (by omega), nI_clamp (by omega)]
    simp only [RS, ht]
    rw [C_writes hs ht (sx t ht) hkey, ob_s, bI_if]
    by_cases hb : bt (I (A 127) t) key = true
    · rw [if_pos hb]
      have hb2 : bt (I (A 127) (I (A 123) (60 * n + k)).toNatClampNeg) key = true := by rw [he, nI_clamp (by omega)]; exact hb
      by_cases h2 : I (A 122) (60 * n + k) = 2
      · rw [if_pos h2, cif_t (P := Vr A I n key k) ⟨Or.inl h2, hb2⟩]
        unfold vst
        rw [if_pos h2]
      · rw [if_neg h2]
        by_cases h3 : I (A 122) (60 * n + k) = 3
        · rw [if_pos h3]
          by_cases h4 : I (A 124) (60 * n + k) = -1
          · rw [h4, cif_f (fun e => e.1.elim h2 (fun q => q.2 h4))]
          · rw [cif_t (P := Vr A I n key k) ⟨Or.inr ⟨h3, h4⟩, hb2⟩]
            unfold vst
            rw [if_neg h2]
        · rw [if_neg h3, cif_f (fun e => e.1.elim h2 (fun q => h3 q.1))]
    · rw [if_neg hb, cif_f (fun e => hb (by have := e.2; rw [he, nI_clamp (by omega)] at this; exact this))]
end
