section
def Sim (A : Nat → Nat) (I : St) : Prop := SA A I ∧ ∀ t, t < 16 → SX A I t
/-- numbers and names in range -/
def Num (A : Nat → Nat) (I : St) : Prop := NB A I ∧ (∀ n, n < 6 → NS A I n ∧ EB A I n ∧ EO A I n) ∧ (∃ b, b ≤ 16 ∧ I (A 110) 16 = nI b) ∧ (∀ t, t < 16 → ¬ (I (A 125) t = 3 ∧ ¬ I (A 127) t = 0) → I (A 130) t = 0)
variable {R : Nat → Nat → Nat} {A : Nat → Nat} {I : St}
theorem in_node (R : Nat → Nat → Nat) (I : St) (x : Int32) : (F_Store_isNode R x I = some 0 ∧ F_Model_below R x 6 I = some 0) ∨ ∃ n, n < 6 ∧ x = nI n ∧ F_Store_isNode R x I = some 1 ∧ F_Model_below R x 6 I = some 1 := by
  unfold F_Store_isNode F_Model_below B_Store_isNode_14 B_Model_below_13
  rcases pk_ix x (n := 6) (by omega) with h | h | ⟨n, hn, rfl⟩
  · rw [if_pos h]; exact Or.inl ⟨rfl, rfl⟩
  · have h : (6 : Int32) ≤ x := h
    by_cases h0 : x < 0
    · rw [if_pos h0]; exact Or.inl ⟨rfl, rfl⟩
    · rw [if_neg h0, if_pos h]; exact Or.inl ⟨rfl, rfl⟩
  · have h6 : ¬ (6 : Int32) ≤ nI n := nI_ge (a := n) (b := 6) hn (by omega)
    refine Or.inr ⟨n, hn, rfl, ?_⟩
    rw [if_neg (nI_pos (by omega)), if_neg h6]
    exact ⟨rfl, rfl⟩
theorem in_key (R : Nat → Nat → Nat) (I : St) (x : Int32) : (F_Store_isKey R x I = some 0 ∧ F_Model_below R x 8 I = some 0) ∨ ∃ n, n < 8 ∧ x = nI n ∧ F_Store_isKey R x I = some 1 ∧ F_Model_below R x 8 I = some 1 := by
  unfold F_Store_isKey F_Model_below B_Store_isKey_14 B_Model_below_13
  rcases pk_ix x (n := 8) (by omega) with h | h | ⟨n, hn, rfl⟩
  · rw [if_pos h]; exact Or.inl ⟨rfl, rfl⟩
  · have h : (8 : Int32) ≤ x := h
    by_cases h0 : x < 0
    · rw [if_pos h0]; exact Or.inl ⟨rfl, rfl⟩
    · rw [if_neg h0, if_pos h]; exact Or.inl ⟨rfl, rfl⟩
  · have h6 : ¬ (8 : Int32) ≤ nI n := nI_ge (a := n) (b := 8) hn (by omega)
    refine Or.inr ⟨n, hn, rfl, ?_⟩
    rw [if_neg (nI_pos (by omega)), if_neg h6]
    exact ⟨rfl, rfl⟩
theorem in_tx (R : Nat → Nat → Nat) (c : SC A I) {b : Nat} (hb : b ≤ 16) (hbe : I (A 110) 16 = nI b) (x : Int32) : (F_Store_isTransaction R (A 0) x I = some 0 ∧ F_Model_below R x (I (A 110) 16) I = some 0) ∨ ∃ t, t < b ∧ x = nI t ∧ F_Store_isTransaction R (A 0) x I = some 1 ∧ F_Model_below R x (I (A 110) 16) I = some 1 := by
  unfold F_Store_isTransaction F_Model_below B_Store_isTransaction_16 B_Model_below_13
  rw [c.2.2, hbe]
  rcases pk_ix x (n := b) (by omega) with h | h | ⟨n, hn, rfl⟩
  · rw [if_pos h]; exact Or.inl ⟨rfl, rfl⟩
  · by_cases h0 : x < 0
    · rw [if_pos h0]; exact Or.inl ⟨rfl, rfl⟩
    · rw [if_neg h0, if_pos h]; exact Or.inl ⟨rfl, rfl⟩
  · refine Or.inr ⟨n, hn, rfl, ?_⟩
    rw [if_neg (nI_pos (by omega)), if_neg (nI_ge hn (by omega))]
    exact ⟨rfl, rfl⟩
theorem q_leader (hs : Sx R A) (sm : Sim A I) (x : Int32) : ∃ v, F_Store_leader R (A 0) x I = some v ∧ F_Model_leader R (A 110) x I = some v := by
  unfold F_Store_leader F_Model_leader F_Model_below B_Store_leader_17 B_Model_below_13
  rcases pk_ix x (n := 2) (by omega) with h | h | ⟨q, hq, rfl⟩
  · rw [if_pos h, if_pos h, ob_s, if_pos rfl]; exact ⟨_, rfl, rfl⟩
  · have h : (2 : Int32) ≤ x := h
    by_cases h0 : x < 0
    · rw [if_pos h0, if_pos h0, ob_s, if_pos rfl]; exact ⟨_, rfl, rfl⟩
    · rw [if_neg h0, if_neg h0, if_pos h, if_pos h, ob_s, if_pos rfl]; exact ⟨_, rfl, rfl⟩
  · have h6 : ¬ (2 : Int32) ≤ nI q := nI_ge (a := q) (b := 2) hq (by omega)
    rw [if_neg (nI_pos (by omega)), if_neg (nI_pos (by omega)), if_neg h6, if_neg h6, ob_s, if_neg (by decide), C_readyNode hs sm.1 hq, M_ready hs sm.1.va hq, ob_s]
    exact ⟨_, rfl, rfl⟩
theorem q_safe (hs : Sx R A) (sm : Sim A I) (nu : Num A I) (x : Int32) : ∃ v, F_Store_safe R (A 0) x I = some v ∧ F_Model_safe R (A 110) x I = some v := by
  have RS := hs.all
  rcases in_node R I x with ⟨h1, h2⟩ | ⟨n, hn, rfl, h1, h2⟩
  · unfold F_Store_safe F_Model_safe B_Model_safe_18
    rw [h1, h2, ob_s, ob_s, if_pos rfl, if_pos rfl]; exact ⟨_, rfl, rfl⟩
  · obtain ⟨sn, sl, vn⟩ := sm.1.2 n hn
    rw [M_safe hs hn vn (nu.2.1 n hn).2.1]
    unfold F_Store_safe
    rw [h1, ob_s, if_neg (by decide), chk_nI hn (by omega), nI_clamp (by omega)]
    simp only [RS, hn]
    rw [C_safeStamp hs hn sn sl vn, ob_s]
    exact ⟨_, rfl, rfl⟩
theorem q_length (hs : Sx R A) (sm : Sim A I) (x : Int32) : ∃ v, F_Store_length R (A 0) x I = some v ∧ F_Model_length R (A 110) x I = some v := by
  have RS := hs.all
  unfold F_Store_length F_Model_length
  rcases in_node R I x with ⟨h1, h2⟩ | ⟨n, hn, rfl, h1, h2⟩
  · rw [h1, h2, ob_s, ob_s, if_pos rfl, if_pos rfl]; exact ⟨_, rfl, rfl⟩
  · obtain ⟨sn, sl, vn⟩ := sm.1.2 n hn
    rw [h1, h2, ob_s, ob_s, if_neg (by decide), if_neg (by decide), chk_nI hn (by omega), chk_nI hn (by omega), nI_clamp (by omega)]
    simp only [RS, hn]
    rw [sn.2.2.2.2.2.2.2.2.1]
    exact ⟨_, rfl, rfl⟩
theorem q_known (hs : Sx R A) (sm : Sim A I) (x : Int32) : ∃ v, F_Store_known R (A 0) x I = some v ∧ F_Model_known R (A 110) x I = some v := by
  have RS := hs.all
  unfold F_Store_known F_Model_known
  rcases in_node R I x with ⟨h1, h2⟩ | ⟨n, hn, rfl, h1, h2⟩
  · rw [h1, h2, ob_s, ob_s, if_pos rfl, if_pos rfl]; exact ⟨_, rfl, rfl⟩
  · obtain ⟨sn, sl, vn⟩ := sm.1.2 n hn
    rw [h1, h2, ob_s, ob_s, if_neg (by decide), if_neg (by decide), chk_nI hn (by omega), chk_nI hn (by omega), nI_clamp (by omega)]
    simp only [RS, hn]
    rw [sn.2.2.2.2.2.2.2.2.2]
    exact ⟨_, rfl, rfl⟩
theorem q_state (hs : Sx R A) (sm : Sim A I) (nu : Num A I) (x : Int32) : ∃ v, F_Store_state R (A 0) x I = some v ∧ F_Model_state R (A 110) x I = some v := by
  have RS := hs.all
  obtain ⟨b, hb, hbe⟩ := nu.2.2.1
  unfold F_Store_state F_Model_state
  rcases in_tx R sm.1.1 hb hbe x with ⟨h1, h2⟩ | ⟨t, ht, rfl, h1, h2⟩
  · rw [h1, h2, ob_s, ob_s, if_pos rfl, if_pos rfl]; exact ⟨_, rfl, rfl⟩
  · have ht : t < 16 := by omega
    rw [h1, h2, ob_s, ob_s, if_neg (by decide), if_neg (by decide), chk_nI ht (by omega), chk_nI ht (by omega), nI_clamp (by omega)]
    simp only [RS, ht]
    rw [(sm.2 t ht).1]
    exact ⟨_, rfl, rfl⟩
theorem q_stamp (hs : Sx R A) (sm : Sim A I) (nu : Num A I) (x : Int32) : ∃ v, F_Store_stamp R (A 0) x I = some v ∧ F_Model_stamp R (A 110) x I = some v := by
  have RS := hs.all
  obtain ⟨b, hb, hbe⟩ := nu.2.2.1
  unfold F_Store_stamp F_Model_stamp B_Model_stamp_43
  rcases in_tx R sm.1.1 hb hbe x with ⟨h1, h2⟩ | ⟨t, ht, rfl, h1, h2⟩
  · rw [h1, h2, ob_s, ob_s, if_pos rfl, if_pos rfl]; exact ⟨_, rfl, rfl⟩
  · have ht : t < 16 := by omega
    rw [h1, h2, ob_s, ob_s, if_neg (by decide), if_neg (by decide), chk_nI ht (by omega), chk_nI ht (by omega), chk_nI ht (by omega), chk_nI ht (by omega), nI_clamp (by omega)]
    simp only [RS, ht]
    rw [(sm.2 t ht).2.1]
    have hz := nu.2.2.2 t ht
    by_cases h3 : I (A 125) t = 3
    · rw [if_pos h3]
      by_cases h4 : I (A 127) t = 0
      · rw [if_pos h4, hz (fun e => e.2 h4)]; exact ⟨_, rfl, rfl⟩
      · rw [if_neg h4]; exact ⟨_, rfl, rfl⟩
    · rw [if_neg h3, hz (fun e => h3 e.1)]; exact ⟨_, rfl, rfl⟩
theorem nd3 {n : Nat} (h : n < 2 ^ 31) : nI n / (3 : Int32) = nI (n / 3) := by rw [show (3 : Int32) = nI 3 from rfl, pk_div h (by omega) (by omega)]
theorem nd4 {n : Nat} (h : n < 2 ^ 31) : nI n / (4 : Int32) = nI (n / 4) := by rw [show (4 : Int32) = nI 4 from rfl, pk_div h (by omega) (by omega)]
theorem q_snapshot (hs : Sx R A) (sm : Sim A I) (nu : Num A I) (x y z : Int32) : ∃ v, F_Store_snapshot R (A 0) x y z I = some v ∧ F_Model_snapshot R (A 110) x y z I = some v := by
  have RS := hs.all
  obtain ⟨b, hb, hbe⟩ := nu.2.2.1
  have hbn : I (A 110) 16 ≤ 16 := by rw [hbe]; exact nI_le (b := 16) hb (by omega)
  rcases in_node R I x with ⟨h1, h2⟩ | ⟨n, hn, rfl, h1, h2⟩
  · refine ⟨-1, ?_, ?_⟩
    · unfold F_Store_snapshot B_Store_snapshot_25 B_Store_snapshot_43 F_Store_groupOfKey F_Store_groupOfNode
      rw [h1, ob_s, if_pos rfl]
    · unfold F_Model_snapshot B_Model_snapshot_40 B_Model_snapshot_60
      rw [h2, ob_s, if_pos rfl]
  · obtain ⟨sn, sl, vn⟩ := sm.1.2 n hn
    obtain ⟨ns, eb, eo⟩ := nu.2.1 n hn
    rcases in_key R I y with ⟨k1, k2⟩ | ⟨key, hkey, rfl, k1, k2⟩
    · refine ⟨-1, ?_, ?_⟩
      · unfold F_Store_snapshot B_Store_snapshot_25 B_Store_snapshot_43 F_Store_groupOfKey F_Store_groupOfNode
        rw [h1, ob_s, if_neg (by decide), k1, ob_s, if_pos rfl]
      · unfold F_Model_snapshot B_Model_snapshot_40 B_Model_snapshot_60
        rw [h2, ob_s, if_neg (by decide), k2, ob_s, if_pos rfl]
    · by_cases hg : nI key / (4 : Int32) = nI n / (3 : Int32)
      · by_cases hu : I (A 111) n = 0
        · by_cases hz : (0 : Int32) ≤ z
          · have vn' := vn
            obtain ⟨ln, kn, v1, v2, v3, v4⟩ := vn
            have goL : ∀ v, (if z ≤ sf A I n then (ob (F_Store_oldestKeptStamp R (A 0) (A (5 + 7 * n)) (nI key) I) (fun v73 => (if v73 ≤ z then (ob (F_Store_valueAt R (A 0) (A (5 + 7 * n)) (nI key) z I) (fun v87 => some v87)) else some (-8 : Int32)))) else some (-4 : Int32)) = some v → F_Store_snapshot R (A 0) (nI n) (nI key) z I = some v := by
              intro v hv
              unfold F_Store_snapshot B_Store_snapshot_25 B_Store_snapshot_43 F_Store_groupOfKey F_Store_groupOfNode
              rw [h1, ob_s, if_neg (by decide), k1, ob_s, if_neg (by decide), ob_s, ob_s, if_pos hg, chk_nI hn (by omega), nI_clamp (by omega)]
              simp only [RS, hn]
              rw [if_neg (fun e => (sn.2.1.mp e) hu), if_pos hz, chk_nI hn (by omega), C_safeStamp hs hn sn sl vn', ob_s]
              exact hv
            have goM : ∀ v, (if I (A 119) n = 0 then some (-4 : Int32) else (if z ≤ sf A I n then B_Model_snapshot_69 R I 100 (A 110) (nI n) (nI key) z 0 0 else some (-4))) = some v → F_Model_snapshot R (A 110) (nI n) (nI key) z I = some v := by
              intro v hv
              unfold F_Model_snapshot B_Model_snapshot_40 B_Model_snapshot_60
              rw [h2, ob_s, if_neg (by decide), k2, ob_s, if_neg (by decide), if_pos hg, chk_nI hn (by omega), nI_clamp (by omega)]
              simp only [RS]
              rw [if_pos hu, if_pos hz, chk_nI hn (by omega), M_safe hs hn vn' eb, ob_s]
              exact hv
            by_cases hk0 : I (A 119) n = 0
            · refine ⟨-4, goL _ ?_, goM _ ?_⟩
              · unfold sf
                rw [cif_t hk0, if_neg (fun e => by rw [ile] at e hz; rw [tm1] at e; rw [t0] at hz; omega)]
              · rw [if_pos hk0]
            · by_cases hsf : z ≤ sf A I n
              · obtain ⟨r, e, hr⟩ := C_oldest hs hn sm.1.1 sn sl vn' (fun t ht => (sm.2 t ht).w) eo eb hbn hkey (time := z) (fun e => by rw [ilt] at e; rw [ile] at hz; omega)
                have e2 := M_sn1 hs hn vn' eo hkey v2 (by rw [v1, nI_clamp (by omega)]; exact v3) z kn 0 100 (by omega) (by omega)
                rw [show cnt A I n key 0 = 0 from rfl, show nI 0 = (0 : Int32) from rfl] at e2
                rw [v2, nI_clamp (by omega)] at hr
                have eV := C_valueAt hs hn sm.1.1 sn sl vn' (fun t ht => (sm.2 t ht).w) eo eb hbn hkey z
                rw [v2, nI_clamp (by omega)] at eV
                by_cases hgo : Gone A I n key z kn
                · refine ⟨-8, goL _ ?_, goM _ ?_⟩
                  · rw [if_pos hsf, e, ob_s, if_neg (fun q => by have := hr.mpr hgo; rw [ilt] at this; rw [ile] at q; omega)]
                  · rw [if_neg hk0, if_pos hsf, e2, cif_t hgo]
                · refine ⟨vl A I n key z kn, goL _ ?_, goM _ ?_⟩
                  · rw [if_pos hsf, e, ob_s, if_pos (show r ≤ z from Classical.byContradiction fun q => hgo (hr.mp (by rw [ilt]; rw [ile] at q; omega))), eV, ob_s]
                  · rw [if_neg hk0, if_pos hsf, e2, cif_f hgo]
              · exact ⟨-4, goL _ (by rw [if_neg hsf]), goM _ (by rw [if_neg hk0, if_neg hsf])⟩
          · refine ⟨-1, ?_, ?_⟩
            · unfold F_Store_snapshot B_Store_snapshot_25 B_Store_snapshot_43 F_Store_groupOfKey F_Store_groupOfNode
              rw [h1, ob_s, if_neg (by decide), k1, ob_s, if_neg (by decide), ob_s, ob_s, if_pos hg, chk_nI hn (by omega), nI_clamp (by omega)]
              simp only [RS, hn]
              rw [if_neg (fun e => (sn.2.1.mp e) hu), if_neg hz]
            · unfold F_Model_snapshot B_Model_snapshot_40 B_Model_snapshot_60
              rw [h2, ob_s, if_neg (by decide), k2, ob_s, if_neg (by decide), if_pos hg, chk_nI hn (by omega), nI_clamp (by omega)]
              simp only [RS]
              rw [if_pos hu, if_neg hz]
        · refine ⟨-1, ?_, ?_⟩
          · unfold F_Store_snapshot B_Store_snapshot_25 B_Store_snapshot_43 F_Store_groupOfKey F_Store_groupOfNode
            rw [h1, ob_s, if_neg (by decide), k1, ob_s, if_neg (by decide), ob_s, ob_s, if_pos hg, chk_nI hn (by omega), nI_clamp (by omega)]
            simp only [RS, hn]
            rw [if_pos (sn.2.1.mpr hu)]
          · unfold F_Model_snapshot B_Model_snapshot_40 B_Model_snapshot_60
            rw [h2, ob_s, if_neg (by decide), k2, ob_s, if_neg (by decide), if_pos hg, chk_nI hn (by omega), nI_clamp (by omega)]
            simp only [RS]
            rw [if_neg hu]
      · refine ⟨-1, ?_, ?_⟩
        · unfold F_Store_snapshot B_Store_snapshot_25 B_Store_snapshot_43 F_Store_groupOfKey F_Store_groupOfNode
          rw [h1, ob_s, if_neg (by decide), k1, ob_s, if_neg (by decide), ob_s, ob_s, if_neg hg]
        · unfold F_Model_snapshot B_Model_snapshot_40 B_Model_snapshot_60
          rw [h2, ob_s, if_neg (by decide), k2, ob_s, if_neg (by decide), if_neg hg]
end
