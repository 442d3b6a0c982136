section
variable {R : Nat → Nat → Nat} {A : Nat → Nat} {I J : St} {n t : Nat} {P : Nat → Prop}
/-- J's rows are I's but for those of P -/
def Bt (A : Nat → Nat) (I J : St) (P : Nat → Prop) : Prop := ∀ p, p < 131 → ¬ P p → J (A p) = I (A p)
theorem SC.cg (h : Bt A I J P) (p0 : ¬ P 0) (p3 : ¬ P 3) (p110 : ¬ P 110) (s : SC A I) : SC A J := by
  unfold SC at s ⊢
  rw [h 0 (by omega) p0, h 3 (by omega) p3, h 110 (by omega) p110]; exact s
theorem SN.cg (h : Bt A I J P) (hn : n < 6) (p4 : ¬ P (4 + 7 * n)) (p5 : ¬ P (5 + 7 * n)) (pm : ∀ p, 111 ≤ p → p < 120 → ¬ P p) (s : SN A I n) : SN A J n := by
  unfold SN at s ⊢
  rw [h (4 + 7 * n) (by omega) p4, h (5 + 7 * n) (by omega) p5, h 111 (by omega) (pm _ (by omega) (by omega)), h 112 (by omega) (pm _ (by omega) (by omega)), h 113 (by omega) (pm _ (by omega) (by omega)), h 114 (by omega) (pm _ (by omega) (by omega)), h 115 (by omega) (pm _ (by omega) (by omega)), h 116 (by omega) (pm _ (by omega) (by omega)), h 117 (by omega) (pm _ (by omega) (by omega)), h 118 (by omega) (pm _ (by omega) (by omega)), h 119 (by omega) (pm _ (by omega) (by omega))]
  exact s
theorem SL.cg (h : Bt A I J P) (hn : n < 6) (pl : ∀ d, d < 5 → ¬ P (6 + d + 7 * n)) (pm : ∀ p, 120 ≤ p → p < 125 → ¬ P p) (s : SL A I n) : SL A J n := by
  unfold SL at s ⊢
  rw [h (6 + 7 * n) (by omega) (pl 0 (by omega)), h (7 + 7 * n) (by omega) (pl 1 (by omega)), h (8 + 7 * n) (by omega) (pl 2 (by omega)), h (9 + 7 * n) (by omega) (pl 3 (by omega)), h (10 + 7 * n) (by omega) (pl 4 (by omega)), h 120 (by omega) (pm _ (by omega) (by omega)), h 121 (by omega) (pm _ (by omega) (by omega)), h 122 (by omega) (pm _ (by omega) (by omega)), h 123 (by omega) (pm _ (by omega) (by omega)), h 124 (by omega) (pm _ (by omega) (by omega))]
  exact s
theorem VN.cg (h : Bt A I J P) (p1 : ¬ P 118) (p2 : ¬ P 119) (s : VN A I n) : VN A J n := by
  unfold VN at s ⊢
  rw [h 118 (by omega) p1, h 119 (by omega) p2]; exact s
theorem SW.cg (h : Bt A I J P) (ht : t < 16) (p1 : ¬ P (48 + 4 * t)) (p2 : ¬ P 127) (p3 : ¬ P 128) (s : SW A I t) : SW A J t := by
  unfold SW at s ⊢
  rw [h (48 + 4 * t) (by omega) p1, h 127 (by omega) p2, h 128 (by omega) p3]; exact s
theorem SX.cg (h : Bt A I J P) (ht : t < 16) (pc : ∀ d, d < 4 → ¬ P (46 + d + 4 * t)) (pm : ∀ p, 125 ≤ p → p < 131 → ¬ P p) (s : SX A I t) : SX A J t := by
  unfold SX RdG at s ⊢
  rw [h (46 + 4 * t) (by omega) (pc 0 (by omega)), h (47 + 4 * t) (by omega) (pc 1 (by omega)), h (48 + 4 * t) (by omega) (pc 2 (by omega)), h (49 + 4 * t) (by omega) (pc 3 (by omega)), h 125 (by omega) (pm _ (by omega) (by omega)), h 126 (by omega) (pm _ (by omega) (by omega)), h 127 (by omega) (pm _ (by omega) (by omega)), h 128 (by omega) (pm _ (by omega) (by omega)), h 129 (by omega) (pm _ (by omega) (by omega)), h 130 (by omega) (pm _ (by omega) (by omega))]
  exact s
theorem NB.cg (h : Bt A I J P) (p1 : ¬ P 110) (s : NB A I) : NB A J := by
  unfold NB at s ⊢
  rw [h 110 (by omega) p1]; exact s
theorem NS.cg (h : Bt A I J P) (p1 : ¬ P 110) (p2 : ¬ P 112) (s : NS A I n) : NS A J n := by
  unfold NS at s ⊢
  rw [h 110 (by omega) p1, h 112 (by omega) p2]; exact s
theorem EB.cg (h : Bt A I J P) (p1 : ¬ P 118) (pm : ∀ p, 121 ≤ p → p < 125 → ¬ P p) (s : EB A I n) : EB A J n := by
  unfold EB at s ⊢
  rw [h 118 (by omega) p1, h 121 (by omega) (pm _ (by omega) (by omega)), h 122 (by omega) (pm _ (by omega) (by omega)), h 124 (by omega) (pm _ (by omega) (by omega))]; exact s
theorem EO.cg (h : Bt A I J P) (p0 : ¬ P 110) (p1 : ¬ P 118) (p2 : ¬ P 122) (p3 : ¬ P 123) (s : EO A I n) : EO A J n := by
  unfold EO at s ⊢
  rw [h 110 (by omega) p0, h 118 (by omega) p1, h 122 (by omega) p2, h 123 (by omega) p3]; exact s
theorem vl.cg (h : Bt A I J P) (pm : ∀ p, 121 ≤ p → p < 125 → ¬ P p) (p1 : ¬ P 127) (p2 : ¬ P 128) (key : Nat) (time : Int32) : ∀ k, vl A J n key time k = vl A I n key time k := by
  intro k
  induction k with
  | zero => rfl
  | succ k ih =>
    show cif _ _ _ = cif _ _ _
    rw [ih]
    unfold Vr vst
    rw [h 121 (by omega) (pm _ (by omega) (by omega)), h 122 (by omega) (pm _ (by omega) (by omega)), h 123 (by omega) (pm _ (by omega) (by omega)), h 124 (by omega) (pm _ (by omega) (by omega)), h 127 (by omega) p1, h 128 (by omega) p2]
theorem Lat.cg (h : Bt A I J P) (p0 : ¬ P 110) (p1 : ¬ P 112) : Lat A J n = Lat A I n := by
  unfold Lat
  rw [h 110 (by omega) p0, h 112 (by omega) p1]
theorem Ear.cg (h : Bt A I J P) (p0 : ¬ P 110) (p1 : ¬ P 112) : Ear A J n = Ear A I n := by
  unfold Ear
  rw [h 110 (by omega) p0, h 112 (by omega) p1]
end
section
variable {R : Nat → Nat → Nat} {A : Nat → Nat} {I J : St} {n t : Nat}
theorem C_noteRead (hs : Sx R A) (ht : t < 16) (sx : SX A I t) {key : Nat} (hkey : key < 8) (x : Int32) : ∃ J, F_Txn_noteRead R (A (46 + 4 * t)) (nI key) x I = some J ∧ Bt A I J (fun p => p = 47 + 4 * t ∨ p = 49 + 4 * t) ∧ J (A (47 + 4 * t)) = upd (I (A (47 + 4 * t))) key 1 ∧ ((RdG A I t (key / 4) ∧ J (A (49 + 4 * t)) = I (A (49 + 4 * t))) ∨ (¬ RdG A I t (key / 4) ∧ J (A (49 + 4 * t)) = upd (I (A (49 + 4 * t))) (key / 4) x)) := by
  have RS := hs.all
  have hg : key / 4 < 2 := by omega
  unfold F_Txn_noteRead F_Store_groupOfKey F_Txn_hasReadIn
  rw [chk_nI hkey (by omega), nI_clamp (by omega), nd4 (by omega), z1]
  simp only [RS, ht, ap_s, ob_s, chk_nI hg (show 2 < 2 ^ 31 by omega), nI_clamp (show key / 4 < 2 ^ 31 by omega)]
  rw [V_row hs I key 1 (p := 47 + 4 * t) (q := 49 + 4 * t) (by omega) (by omega) (by omega)]
  have hh := ((sx.2.2.2 (key / 4) hg).1)
  by_cases h : I (A (49 + 4 * t)) (key / 4) = -1
  · rw [if_pos h, ob_s, if_pos rfl]
    refine ⟨_, rfl, ?_, ?_, Or.inr ⟨hh.mp h, ?_⟩⟩
    · intro p hp hP
      rw [V_row hs _ _ _ (p := 49 + 4 * t) (q := p) (by omega) hp (fun e => hP (Or.inr e)), V_row hs _ _ _ (p := 47 + 4 * t) (q := p) (by omega) hp (fun e => hP (Or.inl e))]
    · rw [V_row hs _ _ _ (p := 49 + 4 * t) (q := 47 + 4 * t) (by omega) (by omega) (by omega), V_same]
    · rw [V_same, V_row hs _ _ _ (p := 47 + 4 * t) (q := 49 + 4 * t) (by omega) (by omega) (by omega)]
  · rw [if_neg h, ob_s, if_neg (by decide)]
    refine ⟨_, rfl, ?_, ?_, Or.inl ⟨Classical.byContradiction fun e => h (hh.mpr e), ?_⟩⟩
    · intro p hp hP
      rw [V_row hs _ _ _ (p := 47 + 4 * t) (q := p) (by omega) hp (fun e => hP (Or.inl e))]
    · rw [V_same]
    · rw [V_row hs _ _ _ (p := 47 + 4 * t) (q := 49 + 4 * t) (by omega) (by omega) (by omega)]
/-- the reference notes the read and answers -/
theorem M_rd3 (hs : Sx R A) (hn : n < 6) (vn : VN A I n) (eo : EO A I n) {b t key g : Nat} (hg : g < 2) (hb : b ≤ 16) (hbe : I (A 110) 16 = nI b) (ht : t < 16) (hkey : key < 8) : ∃ J, B_Model_read_101 R 1 (A 110) (nI t) (nI key) (nI g) (nI n) (nI b) I = some (vl A I n key 2147483647 (I (A 119) n).toNatClampNeg, J) ∧ Bt A I J (fun p => p = 126 ∨ p = 129) ∧ J (A 126) = upd (I (A 126)) t (I (A 126) t ||| ((1 : Int32) <<< (nI key &&& 31))) ∧ ((RdG A I t g ∧ J (A 129) = I (A 129)) ∨ (¬ RdG A I t g ∧ J (A 129) = upd (I (A 129)) (2 * t + g) (I (A 113) n))) := by
  have RS := hs.all
  rw [B_Model_read_101, hbe, if_pos (nI_le (by omega) (by omega)), chk_nI ht (by omega), nI_clamp (by omega)]
  unfold F_Model_bits B_Model_read_183
  simp only [ob_s, RS, ap_s, n2, chk_nI hn (show 6 < 2 ^ 31 by omega), chk_nI ht (show 16 < 2 ^ 31 by omega), chk_nI (show 2 * t + g < 32 by omega) (show 32 < 2 ^ 31 by omega), nI_clamp (show n < 2 ^ 31 by omega), nI_clamp (show t < 2 ^ 31 by omega), nI_clamp (show 2 * t + g < 2 ^ 31 by omega)]
  have fin : ∀ K : St, Bt A I K (fun p => p = 126 ∨ p = 129) → B_Model_read_201 R 100 (A 110) (nI key) (nI n) 0 0 K = some (vl A I n key 2147483647 (I (A 119) n).toNatClampNeg, K) := by
    intro K hK
    have vnK : VN A K n := vn.cg hK (by omega) (by omega)
    have eoK : EO A K n := eo.cg hK (by omega) (by omega) (by omega) (by omega)
    obtain ⟨ln, kn, v1, v2, v3, v4⟩ := vn
    have e := M_rd2 (I := K) hs hn vnK eoK hkey (kn := kn) (by rw [hK 119 (by omega) (by omega)]; exact v2) (by rw [hK 118 (by omega) (by omega), v1, nI_clamp (by omega)]; exact v3) kn 0 100 (by omega) (by omega)
    rw [show vl A K n key 2147483647 0 = 0 from rfl, show nI 0 = (0 : Int32) from rfl] at e
    rw [e, vl.cg hK (fun p q1 q2 => by omega) (by omega) (by omega), v2, nI_clamp (by omega)]
  by_cases h : I (A 126) t &&& ((15 : Int32) <<< (((4 : Int32) * nI g) &&& 31)) = 0
  · rw [if_pos h]
    have hb1 : Bt A I (up2 (up2 I (A 129) (2 * t + g) (I (A 113) n)) (A 126) t (I (A 126) t ||| ((1 : Int32) <<< (nI key &&& 31)))) (fun p => p = 126 ∨ p = 129) := by
      intro p hp hP
      rw [V_row hs _ _ _ (p := 126) (q := p) (by omega) hp (fun e => hP (Or.inl e)), V_row hs _ _ _ (p := 129) (q := p) (by omega) hp (fun e => hP (Or.inr e))]
    rw [V_row hs I _ _ (p := 129) (q := 126) (by omega) (by omega) (by omega), fin _ hb1]
    refine ⟨_, rfl, hb1, ?_, Or.inr ⟨(M_rd ht hg).mp h, ?_⟩⟩
    · rw [V_same, V_row hs I _ _ (p := 129) (q := 126) (by omega) (by omega) (by omega)]
    · rw [V_row hs _ _ _ (p := 126) (q := 129) (by omega) (by omega) (by omega), V_same]
  · rw [if_neg h]
    have hb1 : Bt A I (up2 I (A 126) t (I (A 126) t ||| ((1 : Int32) <<< (nI key &&& 31)))) (fun p => p = 126 ∨ p = 129) := by
      intro p hp hP
      rw [V_row hs _ _ _ (p := 126) (q := p) (by omega) hp (fun e => hP (Or.inl e))]
    rw [fin _ hb1]
    refine ⟨_, rfl, hb1, ?_, Or.inl ⟨Classical.byContradiction fun e => h ((M_rd ht hg).mpr e), ?_⟩⟩
    · rw [V_same]
    · rw [V_row hs _ _ _ (p := 126) (q := 129) (by omega) (by omega) (by omega)]
end
