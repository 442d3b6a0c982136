section
noncomputable def vl (A : Nat → Nat) (I : St) (n key : Nat) (time : Int32) : Nat → Int32
  | 0 => 0
  | k + 1 => cif (Vr A I n key k ∧ vst A I n k ≤ time) (I (A 128) (8 * (I (A 123) (60 * n + k)).toNatClampNeg + key)) (vl A I n key time k)
noncomputable def cnt (A : Nat → Nat) (I : St) (n key : Nat) : Nat → Nat
  | 0 => 0
  | k + 1 => cif (Vr A I n key k) (cnt A I n key k + 1) (cnt A I n key k)
/-- the time is before what is kept -/
def Gone (A : Nat → Nat) (I : St) (n key : Nat) (time : Int32) (kn : Nat) : Prop := ∃ j, j < kn ∧ Vr A I n key j ∧ 3 < cnt A I n key kn ∧ cnt A I n key j + 3 = cnt A I n key kn ∧ ¬ vst A I n j ≤ time
variable {R : Nat → Nat → Nat} {A : Nat → Nat} {I : St} {n : Nat}
theorem cnt_s {key k : Nat} : (Vr A I n key k ∧ cnt A I n key (k + 1) = cnt A I n key k + 1) ∨ (¬ Vr A I n key k ∧ cnt A I n key (k + 1) = cnt A I n key k) := by
  by_cases h : Vr A I n key k
  · exact Or.inl ⟨h, cif_t h⟩
  · exact Or.inr ⟨h, cif_f h⟩
theorem cnt_m {key : Nat} : ∀ d k, cnt A I n key k ≤ cnt A I n key (k + d) := by
  intro d
  induction d with
  | zero => intro k; exact Nat.le_refl _
  | succ d ih =>
    intro k
    have h1 := ih k
    have h2 := cnt_s (A := A) (I := I) (n := n) (key := key) (k := k + d)
    rw [show k + (d + 1) = k + d + 1 by omega]
    omega
theorem cnt_b {key : Nat} : ∀ k, cnt A I n key k ≤ k := by
  intro k
  induction k with
  | zero => exact Nat.le_refl _
  | succ k ih =>
    have h2 := cnt_s (A := A) (I := I) (n := n) (key := key) (k := k)
    omega
theorem cnt_u {key j j' : Nat} (h : Vr A I n key j) (h' : Vr A I n key j') (e : cnt A I n key j = cnt A I n key j') : j = j' := by
  have key1 : ∀ a b, Vr A I n key a → a < b → cnt A I n key a < cnt A I n key b := by
    intro a b ha hab
    have h1 := cnt_s (A := A) (I := I) (n := n) (key := key) (k := a)
    have h2 := cnt_m (A := A) (I := I) (n := n) (key := key) (b - (a + 1)) (a + 1)
    rw [show a + 1 + (b - (a + 1)) = b by omega] at h2
    rcases h1 with ⟨-, h1⟩ | ⟨h1, -⟩
    · omega
    · exact absurd ha h1
  rcases Nat.lt_trichotomy j j' with hl | hl | hl
  · have := key1 j j' h hl; omega
  · exact hl
  · have := key1 j' j h' hl; omega
theorem nm1 (x : Int32) : x + (-1) = x - 1 := (Int32.sub_eq_add_neg (a := x) (b := 1)).symm
theorem C_vl (hs : Sx R A) (hn : n < 6) (c : SC A I) (sn : SN A I n) (sl : SL A I n) (vn : VN A I n) (sx : ∀ t, t < 16 → SW A I t) (eo : EO A I n) (eb : EB A I n) (hbn : I (A 110) 16 ≤ 16) {key : Nat} (hkey : key < 8) (time : Int32) : ∀ k f, k ≤ (I (A 118) n).toNatClampNeg → k < f → B_Store_valueAt_8 R I f (A 0) (A (5 + 7 * n)) (nI key) time (nI k - 1) = some (vl A I n key time k) := by
  have RS := hs.all
  have hl : (I (A 118) n).toNatClampNeg ≤ 60 := by
    obtain ⟨ln, kn, v1, v2, v3, v4⟩ := vn
    rw [v1, nI_clamp (by omega)]; exact v4
  intro k
  induction k with
  | zero =>
    intro f hk hf
    obtain ⟨f, rfl⟩ : ∃ g, f = g + 1 := ⟨f - 1, by omega⟩
    rw [B_Store_valueAt_8, if_pos (by decide)]
    rfl
  | succ k ih =>
    intro f hk hf
    obtain ⟨f, rfl⟩ : ∃ g, f = g + 1 := ⟨f - 1, by omega⟩
    rw [nI_pred, B_Store_valueAt_8]
    unfold B_Store_valueAt_53
    rw [if_neg (nI_pos (by omega)), C_versionStamp hs hn c sn sl vn sx eo eb hbn hkey (by omega), ob_s, nm1, ih f (by omega) (by omega)]
    show _ = some (cif (Vr A I n key k ∧ vst A I n k ≤ time) _ _)
    by_cases hv : Vr A I n key k
    · rw [cif_t hv, if_neg (vst_n eb (by omega) hv)]
      by_cases ht : vst A I n k ≤ time
      · rw [if_neg (fun e => by rw [ilt] at e; rw [ile] at ht; omega), cif_t ⟨hv, ht⟩, chk_nI (by omega) (by omega), nI_clamp (by omega)]
        obtain ⟨t, h1, h2, -⟩ := eo k (by omega) (fun e => by rcases hv.1 with h | ⟨h, -⟩ <;> rw [h] at e <;> exact absurd e (by decide))
        simp only [RS, hn, (sl k (by omega)).2.2.2.1]
        rw [h2, chk_nI h1 (by omega), chk_nI hkey (by omega), nI_clamp (by omega), nI_clamp (by omega)]
        simp only [RS, h1]
        have hb := hv.2
        rw [h2, nI_clamp (by omega)] at hb
        rw [((sx t h1) key hkey).2 hb]
      · rw [if_pos (by rw [ilt]; rw [ile] at ht; omega), cif_f (fun e => ht e.2)]
    · rw [cif_f hv, if_pos rfl, cif_f (fun e => hv e.1)]
theorem C_valueAt (hs : Sx R A) (hn : n < 6) (c : SC A I) (sn : SN A I n) (sl : SL A I n) (vn : VN A I n) (sx : ∀ t, t < 16 → SW A I t) (eo : EO A I n) (eb : EB A I n) (hbn : I (A 110) 16 ≤ 16) {key : Nat} (hkey : key < 8) (time : Int32) : F_Store_valueAt R (A 0) (A (5 + 7 * n)) (nI key) time I = some (vl A I n key time (I (A 119) n).toNatClampNeg) := by
  have hl := sn.2.2.2.2.2.2.2.2.2
  have vn' := vn
  obtain ⟨ln, kn, v1, v2, v3, v4⟩ := vn
  unfold F_Store_valueAt
  rw [hl, v2, nI_clamp (by omega), C_vl hs hn c sn sl vn' sx eo eb hbn hkey time kn 100 (by rw [v1, nI_clamp (by omega)]; exact v3) (by omega)]
theorem C_ok (hs : Sx R A) (hn : n < 6) (c : SC A I) (sn : SN A I n) (sl : SL A I n) (vn : VN A I n) (sx : ∀ t, t < 16 → SW A I t) (eo : EO A I n) (eb : EB A I n) (hbn : I (A 110) 16 ≤ 16) {key kn : Nat} (hkey : key < 8) (hkl : kn ≤ (I (A 118) n).toNatClampNeg) : ∀ k f (x : Int32), k ≤ kn → k < f → ((∃ j, k ≤ j ∧ j < kn ∧ Vr A I n key j ∧ cnt A I n key j + 3 = cnt A I n key kn ∧ x = vst A I n j) ∨ (cnt A I n key kn - cnt A I n key k < 3 ∧ x = 0)) → ∃ r, B_Store_oldestKeptStamp_13 R I f (A 0) (A (5 + 7 * n)) (nI key) (nI (cnt A I n key kn - cnt A I n key k)) x (nI k - 1) = some r ∧ ((cnt A I n key kn ≤ 3 ∧ r = 0) ∨ (3 < cnt A I n key kn ∧ ∃ j, j < kn ∧ Vr A I n key j ∧ cnt A I n key j + 3 = cnt A I n key kn ∧ r = vst A I n j)) := by
  have hl : (I (A 118) n).toNatClampNeg ≤ 60 := by
    obtain ⟨ln, kn, v1, v2, v3, v4⟩ := vn
    rw [v1, nI_clamp (by omega)]; exact v4
  have hcb := cnt_b (A := A) (I := I) (n := n) (key := key) kn
  intro k
  induction k with
  | zero =>
    intro f x hk hf hx
    obtain ⟨f, rfl⟩ : ∃ g, f = g + 1 := ⟨f - 1, by omega⟩
    rw [B_Store_oldestKeptStamp_13, if_pos (by decide)]
    have h0 : cnt A I n key 0 = 0 := rfl
    by_cases hv : cnt A I n key kn ≤ 3
    · rw [if_pos (show nI (cnt A I n key kn - cnt A I n key 0) ≤ (3 : Int32) from nI_le (b := 3) (by omega) (by omega))]
      exact ⟨0, rfl, Or.inl ⟨hv, rfl⟩⟩
    · rw [if_neg (show ¬ nI (cnt A I n key kn - cnt A I n key 0) ≤ (3 : Int32) from nI_ge (a := 3) (by omega) (by omega))]
      rcases hx with ⟨j, q1, q2, q3, q4, q5⟩ | ⟨q1, -⟩
      · exact ⟨x, rfl, Or.inr ⟨by omega, j, q2, q3, q4, q5⟩⟩
      · omega
  | succ k ih =>
    intro f x hk hf hx
    obtain ⟨f, rfl⟩ : ∃ g, f = g + 1 := ⟨f - 1, by omega⟩
    rw [nI_pred, B_Store_oldestKeptStamp_13]
    unfold B_Store_oldestKeptStamp_49
    rw [if_neg (nI_pos (by omega)), C_versionStamp hs hn c sn sl vn sx eo eb hbn hkey (by omega), ob_s, nm1]
    have hc := cnt_s (A := A) (I := I) (n := n) (key := key) (k := k)
    have hm := cnt_m (A := A) (I := I) (n := n) (key := key) (kn - (k + 1)) (k + 1)
    rw [show k + 1 + (kn - (k + 1)) = kn by omega] at hm
    rcases hc with ⟨hv, hc⟩ | ⟨hv, hc⟩
    · rw [cif_t hv, if_neg (vst_n eb (by omega) hv), nI_1, show cnt A I n key kn - cnt A I n key (k + 1) + 1 = cnt A I n key kn - cnt A I n key k by omega]
      by_cases h3 : nI (cnt A I n key kn - cnt A I n key k) = (3 : Int32)
      · rw [if_pos h3]
        have h3 := nI_inj (b := 3) (by omega) (by omega) h3
        exact ih f _ (by omega) (by omega) (Or.inl ⟨k, by omega, by omega, hv, by omega, rfl⟩)
      · rw [if_neg h3]
        have h3 : cnt A I n key kn - cnt A I n key k ≠ 3 := fun e => h3 (by rw [e]; rfl)
        refine ih f x (by omega) (by omega) ?_
        rcases hx with ⟨j, q1, q2, q3, q4, q5⟩ | ⟨q1, q2⟩
        · exact Or.inl ⟨j, by omega, q2, q3, q4, q5⟩
        · exact Or.inr ⟨by omega, q2⟩
    · rw [cif_f hv, if_pos rfl, show cnt A I n key kn - cnt A I n key (k + 1) = cnt A I n key kn - cnt A I n key k by omega]
      refine ih f x (by omega) (by omega) ?_
      rcases hx with ⟨j, q1, q2, q3, q4, q5⟩ | ⟨q1, q2⟩
      · exact Or.inl ⟨j, by omega, q2, q3, q4, q5⟩
      · exact Or.inr ⟨by omega, q2⟩
theorem C_oldest (hs : Sx R A) (hn : n < 6) (c : SC A I) (sn : SN A I n) (sl : SL A I n) (vn : VN A I n) (sx : ∀ t, t < 16 → SW A I t) (eo : EO A I n) (eb : EB A I n) (hbn : I (A 110) 16 ≤ 16) {key : Nat} (hkey : key < 8) {time : Int32} (ht : ¬ time < 0) : ∃ r, F_Store_oldestKeptStamp R (A 0) (A (5 + 7 * n)) (nI key) I = some r ∧ (time < r ↔ Gone A I n key time (I (A 119) n).toNatClampNeg) := by
  have hl := sn.2.2.2.2.2.2.2.2.2
  have vn' := vn
  obtain ⟨ln, kn, v1, v2, v3, v4⟩ := vn
  have hkl : kn ≤ (I (A 118) n).toNatClampNeg := by rw [v1, nI_clamp (by omega)]; exact v3
  obtain ⟨r, e, h⟩ := C_ok hs hn c sn sl vn' sx eo eb hbn hkey hkl kn 100 0 (Nat.le_refl _) (by omega) (Or.inr ⟨by omega, rfl⟩)
  rw [Nat.sub_self, show nI 0 = (0 : Int32) from rfl] at e
  refine ⟨r, ?_, ?_⟩
  · unfold F_Store_oldestKeptStamp
    rw [hl, v2, e]
  · rw [v2, nI_clamp (by omega)]
    unfold Gone
    rcases h with ⟨h1, rfl⟩ | ⟨h1, j, h2, h3, h4, rfl⟩
    · exact ⟨fun e => absurd e ht, fun ⟨j, q1, q2, q3, q4, q5⟩ => by omega⟩
    · constructor
      · intro e
        exact ⟨j, h2, h3, h1, h4, fun q => by rw [ilt] at e; rw [ile] at q; omega⟩
      · rintro ⟨j', q1, q2, q3, q4, q5⟩
        have := cnt_u h3 q2 (by omega)
        subst this
        rw [ilt]
        rw [ile] at q5
        omega
theorem n8 (t k : Nat) : (8 : Int32) * nI t + nI k = nI (8 * t + k) := by rw [show (8 : Int32) = nI 8 from rfl, pk_mul, nI_add]
theorem M_sn2 (hs : Sx R A) (hn : n < 6) (vn : VN A I n) (eo : EO A I n) {key kn : Nat} (hkey : key < 8) (hkn : I (A 119) n = nI kn) (hkl : kn ≤ (I (A 118) n).toNatClampNeg) (time : Int32) : ∀ m k f, k + m = kn → m < f → (∀ j, j < k → Vr A I n key j → 3 < cnt A I n key kn → cnt A I n key j + 3 = cnt A I n key kn → vst A I n j ≤ time) → B_Model_snapshot_116 R I f (A 110) (nI n) (nI key) time (nI (cnt A I n key kn)) (vl A I n key time k) (nI (cnt A I n key k)) (nI k) = some (cif (Gone A I n key time kn) (-8) (vl A I n key time kn)) := by
  have RS := hs.all
  have hl : (I (A 118) n).toNatClampNeg ≤ 60 := by
    obtain ⟨ln, kn, v1, v2, v3, v4⟩ := vn
    rw [v1, nI_clamp (by omega)]; exact v4
  have hcb := cnt_b (A := A) (I := I) (n := n) (key := key) kn
  intro m
  induction m with
  | zero =>
    intro k f hkm hf hg
    obtain ⟨f, rfl⟩ : ∃ g, f = g + 1 := ⟨f - 1, by omega⟩
    have : k = kn := by omega
    subst this
    rw [B_Model_snapshot_116, chk_nI hn (by omega), nI_clamp (by omega)]
    simp only [RS]
    rw [hkn, if_pos (nI_le (by omega) (by omega)), cif_f]
    rintro ⟨j, q1, q2, q3, q4, q5⟩
    exact q5 (hg j q1 q2 q3 q4)
  | succ m ih =>
    intro k f hkm hf hg
    obtain ⟨f, rfl⟩ : ∃ g, f = g + 1 := ⟨f - 1, by omega⟩
    have hck := cnt_b (A := A) (I := I) (n := n) (key := key) k
    rw [B_Model_snapshot_116]
    unfold B_Model_snapshot_175 B_Model_snapshot_208 B_Model_snapshot_213
    rw [chk_nI hn (by omega), nI_clamp (by omega)]
    simp only [RS]
    rw [hkn, if_neg (nI_ge (by omega) (by omega)), M_isVersion hs hn vn eo hkey (by omega), ob_s, bI_if, n60, M_versionStamp hs hn (by omega), ob_s, nI_1, nI_1]
    rcases cnt_s (A := A) (I := I) (n := n) (key := key) (k := k) with ⟨hv, hc⟩ | ⟨hv, hc⟩
    · rw [if_pos hv, ← hc]
      obtain ⟨t, h1, h2, -⟩ := eo k (by omega) (fun e => by rcases hv.1 with h | ⟨h, -⟩ <;> rw [h] at e <;> exact absurd e (by decide))
      have go : (3 < cnt A I n key kn → cnt A I n key k + 3 = cnt A I n key kn → vst A I n k ≤ time) → (if time < vst A I n k then B_Model_snapshot_116 R I f (A 110) (nI n) (nI key) time (nI (cnt A I n key kn)) (vl A I n key time k) (nI (cnt A I n key (k + 1))) (nI (k + 1)) else chk (nI (60 * n + k)) 360 (chk ((8 : Int32) * I (A 123) (nI (60 * n + k)).toNatClampNeg + nI key) 128 (B_Model_snapshot_116 R I f (A 110) (nI n) (nI key) time (nI (cnt A I n key kn)) (I (A 128) ((8 : Int32) * I (A 123) (nI (60 * n + k)).toNatClampNeg + nI key).toNatClampNeg) (nI (cnt A I n key (k + 1))) (nI (k + 1))))) = some (cif (Gone A I n key time kn) (-8) (vl A I n key time kn)) := by
        intro hgk
        have hg2 : ∀ j, j < k + 1 → Vr A I n key j → 3 < cnt A I n key kn → cnt A I n key j + 3 = cnt A I n key kn → vst A I n j ≤ time := by
          intro j hj q1 q2 q3
          by_cases e : j = k
          · subst e; exact hgk q2 q3
          · exact hg j (by omega) q1 q2 q3
        have hi := ih (k + 1) f (by omega) (by omega) hg2
        by_cases ht : vst A I n k ≤ time
        · rw [if_neg (fun e => by rw [ilt] at e; rw [ile] at ht; omega), chk_nI (by omega) (by omega), nI_clamp (by omega), h2, n8, chk_nI (by omega) (by omega), nI_clamp (by omega)]
          have : vl A I n key time (k + 1) = I (A 128) (8 * t + key) := by
            show cif _ _ _ = _
            rw [cif_t ⟨hv, ht⟩, h2, nI_clamp (by omega)]
          rw [← this]
          exact hi
        · rw [if_pos (by rw [ilt]; rw [ile] at ht; omega)]
          have : vl A I n key time (k + 1) = vl A I n key time k := by
            show cif _ _ _ = _
            rw [cif_f (fun e => ht e.2)]
          rw [← this]
          exact hi
      by_cases h3 : cnt A I n key kn ≤ 3
      · rw [if_pos (show nI (cnt A I n key kn) ≤ (3 : Int32) from nI_le (b := 3) h3 (by omega))]
        exact go (fun q => by omega)
      · rw [if_neg (show ¬ nI (cnt A I n key kn) ≤ (3 : Int32) from nI_ge (a := 3) (by omega) (by omega)), show (3 : Int32) = nI 3 from rfl, pk_sub (by omega)]
        by_cases h4 : nI (cnt A I n key k) = nI (cnt A I n key kn - 3)
        · rw [if_pos h4]
          have h4 := nI_inj (by omega) (by omega) h4
          by_cases h5 : vst A I n k ≤ time
          · rw [if_pos h5]
            exact go (fun _ _ => h5)
          · rw [if_neg h5, cif_t ⟨k, by omega, hv, by omega, by omega, h5⟩]
        · rw [if_neg h4]
          exact go (fun _ q => absurd (by rw [show cnt A I n key k = cnt A I n key kn - 3 by omega]) h4)
    · rw [if_neg hv]
      have e1 : vl A I n key time (k + 1) = vl A I n key time k := by
        show cif _ _ _ = _
        rw [cif_f (fun e => hv e.1)]
      have hi := ih (k + 1) f (by omega) (by omega) (fun j hj q1 q2 q3 => by
        by_cases e : j = k
        · subst e; exact absurd q1 hv
        · exact hg j (by omega) q1 q2 q3)
      rw [e1, hc] at hi
      exact hi
theorem M_sn1 (hs : Sx R A) (hn : n < 6) (vn : VN A I n) (eo : EO A I n) {key kn : Nat} (hkey : key < 8) (hkn : I (A 119) n = nI kn) (hkl : kn ≤ (I (A 118) n).toNatClampNeg) (time : Int32) : ∀ m k f, k + m = kn → m < f → B_Model_snapshot_69 R I f (A 110) (nI n) (nI key) time (nI (cnt A I n key k)) (nI k) = some (cif (Gone A I n key time kn) (-8) (vl A I n key time kn)) := by
  have RS := hs.all
  have hl : (I (A 118) n).toNatClampNeg ≤ 60 := by
    obtain ⟨ln, kn, v1, v2, v3, v4⟩ := vn
    rw [v1, nI_clamp (by omega)]; exact v4
  intro m
  induction m with
  | zero =>
    intro k f hkm hf
    obtain ⟨f, rfl⟩ : ∃ g, f = g + 1 := ⟨f - 1, by omega⟩
    have : k = kn := by omega
    subst this
    rw [B_Model_snapshot_69, chk_nI hn (by omega), nI_clamp (by omega)]
    simp only [RS]
    rw [hkn, if_pos (nI_le (by omega) (by omega))]
    exact M_sn2 hs hn vn eo hkey hkn hkl time k 0 100 (by omega) (by omega) (fun j hj => by omega)
  | succ m ih =>
    intro k f hkm hf
    obtain ⟨f, rfl⟩ : ∃ g, f = g + 1 := ⟨f - 1, by omega⟩
    rw [B_Model_snapshot_69]
    unfold B_Model_snapshot_98
    rw [chk_nI hn (by omega), nI_clamp (by omega)]
    simp only [RS]
    rw [hkn, if_neg (nI_ge (by omega) (by omega)), M_isVersion hs hn vn eo hkey (by omega), ob_s, bI_if, nI_1, nI_1]
    have hi := ih (k + 1) f (by omega) (by omega)
    rcases cnt_s (A := A) (I := I) (n := n) (key := key) (k := k) with ⟨hv, hc⟩ | ⟨hv, hc⟩
    · rw [if_pos hv, ← hc]
      exact hi
    · rw [if_neg hv, show nI (cnt A I n key k) + (0 : Int32) = nI (cnt A I n key (k + 1)) from by rw [hc, show (0 : Int32) = nI 0 from rfl, nI_add]; rfl]
      exact hi
end
