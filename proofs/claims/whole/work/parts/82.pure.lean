section
variable {R : Nat → Nat → Nat} {A : Nat → Nat} {I J : St} {n t : Nat} {P : Nat → Prop}
/-- no row of the reference's nodes, logs and clock -/
def Mn (P : Nat → Prop) : Prop := ¬ P 110 ∧ ∀ p, 111 ≤ p → p < 125 → ¬ P p
theorem Rdy.cg (h : Bt A I J P) (m : Mn P) : Rdy A J n = Rdy A I n := by
  unfold Rdy Act Own
  rw [Lat.cg h m.1 (m.2 _ (by omega) (by omega)), h 116 (by omega) (m.2 _ (by omega) (by omega)), h 117 (by omega) (m.2 _ (by omega) (by omega)), h 119 (by omega) (m.2 _ (by omega) (by omega)), h 120 (by omega) (m.2 _ (by omega) (by omega)), h 113 (by omega) (m.2 _ (by omega) (by omega))]
theorem rdy.cg (h : Bt A I J P) (m : Mn P) (q : Nat) : rdy A J q = rdy A I q := by
  unfold rdy
  rw [Rdy.cg h m, Rdy.cg h m, Rdy.cg h m]
theorem Hold.cg (h : Bt A I J P) (m : Mn P) (o : Int32) : Hold A J n o = Hold A I n o := by
  unfold Hold HasE KnsE Mt
  rw [h 118 (by omega) (m.2 _ (by omega) (by omega)), h 119 (by omega) (m.2 _ (by omega) (by omega)), h 122 (by omega) (m.2 _ (by omega) (by omega)), h 123 (by omega) (m.2 _ (by omega) (by omega))]
theorem HW.cg (h : Bt A I J P) (m : Mn P) (p1 : ¬ P 127) (key b k : Nat) : HW A J n key b k = HW A I n key b k := by
  unfold HW
  rw [h 127 (by omega) p1]
  simp only [Hold.cg h m]
theorem Lst.cg (h : Bt A I J P) (m : Mn P) (p1 : ¬ P 126) (p2 : ¬ P 129) (g : Nat) : Lst A J t g = Lst A I t g := by
  unfold Lst RdG HoM
  rw [h 126 (by omega) p1, h 129 (by omega) p2, rdy.cg h m, h 113 (by omega) (m.2 _ (by omega) (by omega))]
theorem SA.cg (h : Bt A I J P) (m : Mn P) (hp : ∀ p, P p → p = 110 ∨ 46 ≤ p) (s : SA A I) : SA A J := by
  refine ⟨s.1.cg h (fun e => by have := hp _ e; omega) (fun e => by have := hp _ e; omega) m.1, fun n hn => ?_⟩
  obtain ⟨s1, s2, s3⟩ := s.2 n hn
  refine ⟨s1.cg h hn (fun e => by have := hp _ e; omega) (fun e => by have := hp _ e; omega) (fun p q1 q2 => m.2 p q1 (by omega)), s2.cg h hn (fun d hd e => by have := hp _ e; omega) (fun p q1 q2 => m.2 p (by omega) q2), s3.cg h (m.2 _ (by omega) (by omega)) (m.2 _ (by omega) (by omega))⟩
/-- what a read does -/
def RdE (A : Nat → Nat) (I J K : St) (b : Nat) : Prop := (J = I ∧ K = I) ∨ (∃ t, t < b ∧ I (A 125) t = 0 ∧ J = up2 I (A (46 + 4 * t)) 3 4 ∧ K = up2 J (A 125) t 4) ∨
  ∃ t key n, t < b ∧ key < 8 ∧ n < 6 ∧ rdy A I (key / 4) = nI n ∧ I (A 125) t = 0 ∧ Bt A I J (fun p => p = 47 + 4 * t ∨ p = 49 + 4 * t) ∧ J (A (47 + 4 * t)) = upd (I (A (47 + 4 * t))) key 1 ∧ ((RdG A I t (key / 4) ∧ J (A (49 + 4 * t)) = I (A (49 + 4 * t))) ∨ (¬ RdG A I t (key / 4) ∧ J (A (49 + 4 * t)) = upd (I (A (49 + 4 * t))) (key / 4) (I (A 113) n))) ∧
    Bt A J K (fun p => p = 126 ∨ p = 129) ∧ K (A 126) = upd (I (A 126)) t (I (A 126) t ||| ((1 : Int32) <<< (nI key &&& 31))) ∧ ((RdG A I t (key / 4) ∧ K (A 129) = I (A 129)) ∨ (¬ RdG A I t (key / 4) ∧ K (A 129) = upd (I (A 129)) (2 * t + key / 4) (I (A 113) n)))
theorem e_read (hs : Sx R A) (sm : Sim A I) (nu : Num A I) {b : Nat} (hb : b ≤ 16) (hbe : I (A 110) 16 = nI b) (x y : Int32) : ∃ v J K, F_Store_read R (A 0) x y I = some (v, J) ∧ F_Model_read R (A 110) x y J = some (v, K) ∧ RdE A I J K b := by
  have RS := hs.all
  have hbn : I (A 110) 16 ≤ 16 := by rw [hbe]; exact nI_le (b := 16) hb (by omega)
  rcases in_tx R sm.1.1 hb hbe x with ⟨h1, h2⟩ | ⟨t, htb, rfl, h1, h2⟩
  · refine ⟨-1, I, I, ?_, ?_, Or.inl ⟨rfl, rfl⟩⟩
    · unfold F_Store_read B_Store_read_15
      rw [h1, ob_s, if_pos rfl]
    · unfold F_Model_read B_Model_read_20
      rw [h2, ob_s, if_pos rfl]
  have ht : t < 16 := by omega
  have sx := sm.2 t ht
  have hu := sx.1
  rcases in_key R I y with ⟨k1, k2⟩ | ⟨key, hkey, rfl, k1, k2⟩
  · refine ⟨-1, I, I, ?_, ?_, Or.inl ⟨rfl, rfl⟩⟩
    · unfold F_Store_read B_Store_read_15
      rw [h1, ob_s, if_neg (by decide), k1, ob_s, if_pos rfl]
    · unfold F_Model_read B_Model_read_20
      rw [h2, ob_s, if_neg (by decide), k2, ob_s, if_pos rfl]
  have hg : key / 4 < 2 := by omega
  -- the class, from the state on
  have goL : ∀ w, (if I (A 125) t = 0 then (ob (some (bI (bt (I (A 127) t) key = true))) (fun v36 => (if v36 = 0 then (ob (some (rdy A I (key / 4))) (fun v54 => (if v54 = (-1 : Int32) then some ((-3 : Int32), I) else (ob (some (bI (Lst A I t (key / 4)))) (fun v74 => (if v74 = 0 then (chk v54 6 ((ob (F_Store_isHeldForWriter R (A 0) (R (R (R (A 0) 1) v54.toNatClampNeg) 2) (nI key) I) (fun v100 => (if v100 = 0 then (chk v54 6 ((ob (F_Txn_noteRead R (A (46 + 4 * t)) (nI key) (I (R (R (A 0) 1) v54.toNatClampNeg) 6) I) (fun I121 => (chk v54 6 ((ob (F_Store_valueAt R (A 0) (R (R (R (A 0) 1) v54.toNatClampNeg) 2) (nI key) (2147483647 : Int32) I121) (fun v138 => some (v138, I121))))))))) else some ((-4 : Int32), I)))))) else some ((-2 : Int32), up2 I (A (46 + 4 * t)) 3 4)))))))  else some (I (A (48 + 4 * t)) key, I)))) else some ((-2 : Int32), I)) = w → F_Store_read R (A 0) (nI t) (nI key) I = w := by
    intro w hw
    unfold F_Store_read B_Store_read_15 F_Store_groupOfKey
    rw [h1, ob_s, if_neg (by decide), k1, ob_s, if_neg (by decide), chk_nI ht (by omega), nI_clamp (by omega), nd4 (by omega)]
    simp only [RS, ht, hu, C_writes hs ht sx.w hkey, ob_s, C_readyNode hs sm.1 hg, C_lost hs sm.1 ht sx hg, chk_nI hkey (show 8 < 2 ^ 31 by omega), nI_clamp (show key < 2 ^ 31 by omega), ap_s]
    simp only [ob_s, RS] at hw
    exact hw
  have goM : ∀ (K : St) w, K (A 110) 16 = nI b → (if K (A 125) t = 0 then (if ((K (A 127) t >>> (nI key &&& 31)) &&& (1 : Int32)) = (1 : Int32) then some (K (A 128) (8 * t + key), K) else (ob (F_Model_ready R (A 110) (nI (key / 4)) K) (fun v66 => (if 0 ≤ v66 then (ob (F_Model_lost R (A 110) (nI t) (nI (key / 4)) K) (fun v82 => (if v82 = 0 then B_Model_read_101 R 100 (A 110) (nI t) (nI key) (nI (key / 4)) v66 (0 : Int32) K else some ((-2 : Int32), up2 K (A 125) t 4)))) else some ((-3 : Int32), K))))) else some ((-2 : Int32), K)) = w → F_Model_read R (A 110) (nI t) (nI key) K = w := by
    intro K w hK hw
    unfold F_Model_read B_Model_read_20
    rw [belt R K htb hb hK, ob_s, if_neg (by decide), bel8 R K hkey, ob_s, if_neg (by decide), chk_nI ht (by omega), nI_clamp (by omega), nd4 (by omega)]
    simp only [RS, chk_nI ht (show 16 < 2 ^ 31 by omega), n8, chk_nI (show 8 * t + key < 128 by omega) (show 128 < 2 ^ 31 by omega), nI_clamp (show 8 * t + key < 2 ^ 31 by omega), ap_s]
    exact hw
  by_cases l1 : I (A 125) t = 0
  · have hbk := bk (I (A 127) t) (k := key) (by omega)
    by_cases l2 : bt (I (A 127) t) key = true
    · have ev := (sx.2.2.1 key hkey).2.2 l2
      exact ⟨I (A 128) (8 * t + key), I, I, goL _ (by rw [if_pos l1, ob_s, bI_if, if_pos l2, ev]), goM I _ hbe (by rw [if_pos l1, if_pos (hbk.mpr l2)]), Or.inl ⟨rfl, rfl⟩⟩
    · have l2' : ¬ ((I (A 127) t >>> (nI key &&& 31)) &&& (1 : Int32)) = (1 : Int32) := fun e => l2 (hbk.mp e)
      rcases rdy_c A I hg with ⟨r1, r2⟩ | ⟨n, r1, hn, r3, r4⟩
      · exact ⟨-3, I, I, goL _ (by rw [if_pos l1, ob_s, bI_if, if_neg l2, ob_s, r1, if_pos rfl]), goM I _ hbe (by rw [if_pos l1, if_neg l2', M_ready hs sm.1.va hg, ob_s, r1, if_neg (by decide)]), Or.inl ⟨rfl, rfl⟩⟩
      · by_cases l3 : Lst A I t (key / 4)
        · have hb1 : Bt A I (up2 I (A (46 + 4 * t)) 3 4) (fun p => p = 46 + 4 * t) := fun p hp hP => V_row hs _ _ _ (by omega) hp hP
          have mn : Mn (fun p => p = 46 + 4 * t) := ⟨by omega, fun p q1 q2 => by omega⟩
          have saJ : SA A (up2 I (A (46 + 4 * t)) 3 4) := sm.1.cg hb1 mn (fun p e => by omega)
          refine ⟨-2, up2 I (A (46 + 4 * t)) 3 4, up2 (up2 I (A (46 + 4 * t)) 3 4) (A 125) t 4, goL _ ?_, goM _ _ (by rw [hb1 110 (by omega) (by omega)]; exact hbe) ?_, Or.inr (Or.inl ⟨t, htb, l1, rfl, rfl⟩)⟩
          · rw [if_pos l1, ob_s, bI_if, if_neg l2, ob_s, r3, if_neg (nI_nm1 (by omega)), ob_s, bI_if, if_pos l3]
          · rw [hb1 125 (by omega) (by omega), hb1 127 (by omega) (by omega), if_pos l1, if_neg l2', M_ready hs saJ.va hg, ob_s, rdy.cg hb1 mn, r3, if_pos (nI_pos' (by omega)), M_lost hs saJ.va ht hg, ob_s, bI_if, Lst.cg hb1 mn (by omega) (by omega), if_pos l3]
        · obtain ⟨sn, sl, vn⟩ := sm.1.2 n hn
          obtain ⟨ns, eb, eo⟩ := nu.2.1 n hn
          have sw : ∀ t, t < 16 → SW A I t := fun t ht => (sm.2 t ht).w
          have hhw : F_Store_isHeldForWriter R (A 0) (A (5 + 7 * n)) (nI key) I = some (bI (HW A I n key b 0)) := by
            unfold F_Store_isHeldForWriter
            have e := C_hw hs hn sm.1.1 sn sl vn sw hb hbe hkey b 0 100 (by omega) (by omega)
            rw [show nI 0 = (0 : Int32) from rfl] at e
            exact e
          have hm1 := M_rd1 (I := I) hs hn vn (g := key / 4) hb hbe ht hkey l2 b 0 100 (by omega) (by omega)
          rw [show nI 0 = (0 : Int32) from rfl] at hm1
          by_cases l4 : HW A I n key b 0
          · refine ⟨-4, I, I, goL _ ?_, goM I _ hbe ?_, Or.inl ⟨rfl, rfl⟩⟩
            · rw [if_pos l1, ob_s, bI_if, if_neg l2, ob_s, r3, if_neg (nI_nm1 (by omega)), ob_s, bI_if, if_neg l3, chk_nI hn (by omega), nI_clamp (by omega)]
              simp only [RS, hn]
              rw [hhw, ob_s, bI_if, if_pos l4]
            · rw [if_pos l1, if_neg l2', M_ready hs sm.1.va hg, ob_s, r3, if_pos (nI_pos' (by omega)), M_lost hs sm.1.va ht hg, ob_s, bI_if, if_neg l3, hm1, cif_t l4]
          · obtain ⟨J, ej, jb, j1, j2⟩ := C_noteRead hs ht sx hkey (I (A 113) n)
            have mn : Mn (fun p => p = 47 + 4 * t ∨ p = 49 + 4 * t) := ⟨by omega, fun p q1 q2 => by omega⟩
            have saJ : SA A J := sm.1.cg jb mn (fun p e => by omega)
            obtain ⟨snJ, slJ, vnJ⟩ := saJ.2 n hn
            have eoJ : EO A J n := eo.cg jb (by omega) (by omega) (by omega) (by omega)
            have ebJ : EB A J n := eb.cg jb (by omega) (fun p q1 q2 => by omega)
            have swJ : ∀ u, u < 16 → SW A J u := fun u hu => (sw u hu).cg jb hu (by omega) (by omega) (by omega)
            have evJ := C_valueAt hs hn saJ.1 snJ slJ vnJ swJ eoJ ebJ (by rw [jb 110 (by omega) (by omega)]; exact hbn) hkey 2147483647
            rw [vl.cg jb (fun p q1 q2 => by omega) (by omega) (by omega), jb 119 (by omega) (by omega)] at evJ
            have hbJ : J (A 110) 16 = nI b := by rw [jb 110 (by omega) (by omega)]; exact hbe
            obtain ⟨K, ek, kb, kk1, kk2⟩ := M_rd3 (I := J) hs hn vnJ eoJ (t := t) (key := key) (g := key / 4) hg hb hbJ ht hkey
            rw [vl.cg jb (fun p q1 q2 => by omega) (by omega) (by omega), jb 119 (by omega) (by omega)] at ek
            have hm1 := M_rd1 (I := J) hs hn vnJ (g := key / 4) hb hbJ ht hkey (by rw [jb 127 (by omega) (by omega)]; exact l2) b 0 100 (by omega) (by omega)
            rw [show nI 0 = (0 : Int32) from rfl, HW.cg jb mn (by omega), cif_f l4, ek] at hm1
            have rd : RdG A J t (key / 4) = RdG A I t (key / 4) := by unfold RdG; rw [jb 126 (by omega) (by omega)]
            refine ⟨vl A I n key 2147483647 (I (A 119) n).toNatClampNeg, J, K, goL _ ?_, goM J _ hbJ ?_, Or.inr (Or.inr ⟨t, key, n, htb, hkey, hn, r3, l1, jb, j1, j2, kb, ?_, ?_⟩)⟩
            · rw [if_pos l1, ob_s, bI_if, if_neg l2, ob_s, r3, if_neg (nI_nm1 (by omega)), ob_s, bI_if, if_neg l3, chk_nI hn (by omega), nI_clamp (by omega)]
              simp only [RS, hn]
              rw [hhw, ob_s, bI_if, if_neg l4, chk_nI hn (by omega), sn.2.2.2.2.1, ej, ob_s, chk_nI hn (by omega), evJ, ob_s]
            · rw [jb 125 (by omega) (by omega), jb 127 (by omega) (by omega), if_pos l1, if_neg l2', M_ready hs saJ.va hg, ob_s, rdy.cg jb mn, r3, if_pos (nI_pos' (by omega)), M_lost hs saJ.va ht hg, ob_s, bI_if, Lst.cg jb mn (by omega) (by omega), if_neg l3, hm1]
            · rw [kk1, jb 126 (by omega) (by omega)]
            · rw [rd, jb 129 (by omega) (by omega), jb 113 (by omega) (by omega)] at kk2
              exact kk2
  · exact ⟨-2, I, I, goL _ (by rw [if_neg l1]), goM I _ hbe (by rw [if_neg l1]), Or.inl ⟨rfl, rfl⟩⟩
end
