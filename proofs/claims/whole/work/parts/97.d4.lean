section
variable {R : Nat → Nat → Nat} {A : Nat → Nat} {I J K : St} {n t g b : Nat}
theorem MR.bt9 (h : MR A I J) : Bt A I J (fun p => p < 110) := fun p hp hP => h p (by omega) hp
theorem MR.rd9 (h : MR A I J) (q : Nat) : rdy A J q = rdy A I q := rdy.cg h.bt9 ⟨by omega, fun p q1 q2 => by omega⟩ q
theorem MR.us9 (h : MR A I J) (t g : Nat) : Us A J t g = Us A I t g := by
  unfold Us RdG WrG
  rw [h 126 (by omega) (by omega), h 127 (by omega) (by omega)]
theorem MR.lk9 (h : MR A I J) (t : Nat) : Lk A J t = Lk A I t := by
  unfold Lk
  rw [h.us9 t 0, h.us9 t 1, h.rd9 0, h.rd9 1]
theorem MR.lst9 (h : MR A I J) (t g : Nat) : Lst A J t g = Lst A I t g := by
  unfold Lst RdG HoM
  rw [h 126 (by omega) (by omega), h 113 (by omega) (by omega), h 129 (by omega) (by omega), h.rd9 g]
theorem MR.nx9 (h : MR A I J) (n : Nat) : nx A J n = nx A I n := nx.cg (h 110 (by omega) (by omega)) (h 112 (by omega) (by omega)) (h 118 (by omega) (by omega)) (h 121 (by omega) (by omega)) (h 124 (by omega) (by omega))
theorem MR.blk9 (h : MR A I J) (t : Nat) : blk A J t = blk A I t := by
  unfold blk bq bar
  simp only [h.us9, h.rd9, h.nx9]
  rw [h 117 (by omega) (by omega), h 118 (by omega) (by omega)]
theorem MR.mw9 (h : MR A I J) (t b : Nat) : MW A J t b = MW A I t b := by
  unfold MW Wt W1 HoM Hold HasE KnsE Mt
  simp only [h.rd9]
  rw [h 113 (by omega) (by omega), h 118 (by omega) (by omega), h 119 (by omega) (by omega), h 122 (by omega) (by omega), h 123 (by omega) (by omega), h 125 (by omega) (by omega), h 126 (by omega) (by omega), h 127 (by omega) (by omega), h 129 (by omega) (by omega)]
theorem MR.hr9 (h : MR A I J) (r w : Nat) : HR A J r w = HR A I r w := by
  unfold HR HoM
  simp only [h.rd9]
  rw [h 113 (by omega) (by omega), h 125 (by omega) (by omega), h 126 (by omega) (by omega), h 127 (by omega) (by omega), h 129 (by omega) (by omega)]
theorem MR.num9 (h : MR A I J) (nu : Num A I) : Num A J := by
  unfold Num NB NS EB EO at nu ⊢
  rw [h 110 (by omega) (by omega), h 112 (by omega) (by omega), h 118 (by omega) (by omega), h 121 (by omega) (by omega), h 122 (by omega) (by omega), h 123 (by omega) (by omega), h 124 (by omega) (by omega), h 125 (by omega) (by omega), h 127 (by omega) (by omega), h 130 (by omega) (by omega)]
  exact nu
/-- a first entry of t is written at n, in group g -/
def WfP (A : Nat → Nat) (I : St) (t g n : Nat) : Prop := n < 6 ∧ n / 3 = g ∧ rdy A I g = nI n ∧ Us A I t g ∧ bar A I n (nx A I n) = 0
theorem WfP.ge9 (hg : g < 2) (h : ∀ n, n / 3 = g → GE A I J n) (vn : ∀ n, n / 3 = g → VN A I n) (hu : Us A J t g = Us A I t g) (n : Nat) : WfP A J t g n ↔ WfP A I t g n := by
  have e : ∀ b : n / 3 = g, (bar A J n (nx A J n) = 0) = (bar A I n (nx A I n) = 0) := fun b => by
    rw [(h n b).nx (vn n b), (h n b).bar]
  unfold WfP
  rw [GE.rdy hg h vn, hu]
  exact ⟨fun ⟨a, b, c, d, d2⟩ => ⟨a, b, c, d, (e b).mp d2⟩, fun ⟨a, b, c, d, d2⟩ => ⟨a, b, c, d, (e b).mpr d2⟩⟩
theorem blk_0 (h : 0 ≤ blk A I t) (hg : g < 2) : bq A I t g = 0 := by
  have hh : ∀ a c, a = bq A I t 0 → c = bq A I t 1 → (a = -6 ∨ a = -7 ∨ a = 0) → (c = -6 ∨ c = -7 ∨ c = 0) → a = 0 ∧ c = 0 := by
    intro a c ha hc h1 h2
    unfold blk at h
    rw [← ha, ← hc] at h
    rcases h1 with e | e | e <;> rcases h2 with f | f | f <;> subst e <;> subst f <;> first | exact ⟨rfl, rfl⟩ | exact absurd h (by decide)
  obtain ⟨a, c⟩ := hh _ _ rfl rfl (bq_c 0) (bq_c 1)
  rcases (show g = 0 ∨ g = 1 by omega) with e | e <;> subst e
  · exact a
  · exact c
theorem WfP.ok9 (hl : ¬ Lk A I t) (h : 0 ≤ blk A I t) (hg : g < 2) (u : Us A I t g) : ∃ n, WfP A I t g n := by
  have hq := blk_0 h hg
  rcases rdy_c A I hg with ⟨r1, r2⟩ | ⟨n, r1, hn, r3, r4⟩
  · exfalso
    rcases (show g = 0 ∨ g = 1 by omega) with e | e <;> subst e
    · exact hl (Or.inl ⟨u, r1⟩)
    · exact hl (Or.inr ⟨u, r1⟩)
  · refine ⟨n, hn, r1, r3, u, ?_⟩
    unfold bq at hq
    rw [cif_t u, r3, nI_clamp (by omega)] at hq
    exact hq
theorem C_wf (hs : Sx R A) (hg : g < 2) (sg : SG A I g) (hU : F_Txn_usesGroup R (A (46 + 4 * t)) (nI g) I = some (bI (Us A I t g))) (nb : NB A I) (nse : ∀ n, n < 6 → n / 3 = g → NS A I n ∧ EB A I n) (ok : Us A I t g → ∃ n, WfP A I t g n) (kd : Int32) (f : Nat) : ((¬ ∃ n, WfP A I t g n) ∧ B_Store_writeFirstEntries_23 R (f + 1) (A 0) (nI t) (A (46 + 4 * t)) kd (nI g) I = B_Store_writeFirstEntries_23 R f (A 0) (nI t) (A (46 + 4 * t)) kd (nI (g + 1)) I) ∨ ∃ n ln J, WfP A I t g n ∧ ln < 60 ∧ I (A 118) n = nI ln ∧ ¬ I (A 117) n ≤ nx A I n ∧ B_Store_writeFirstEntries_23 R (f + 1) (A 0) (nI t) (A (46 + 4 * t)) kd (nI g) I = B_Store_writeFirstEntries_23 R f (A 0) (nI t) (A (46 + 4 * t)) kd (nI (g + 1)) J ∧ PuC A I J n ln (I (A 113) n) (nx A I n) kd (nI t) (-1) := by
  have RS := hs.all
  rw [B_Store_writeFirstEntries_23]
  unfold B_Store_writeFirstEntries_67
  rw [if_neg (show ¬ (2 : Int32) ≤ nI g from nI_ge (b := 2) hg (by omega)), C_ready2 hs sg hg, ob_s, hU, ob_s, bI_if, nI_1]
  by_cases u : Us A I t g
  · rw [if_pos u]
    obtain ⟨n, hn, hn3, r3, u2, hbar⟩ := ok u
    obtain ⟨sn, sl, vn⟩ := sg.2 n hn hn3
    obtain ⟨ns, eb⟩ := nse n hn hn3
    rw [r3, if_neg (nI_nm1 (by omega)), chk_nI hn (by omega), nI_clamp (by omega)]
    simp only [RS, hn]
    have ep := C_put hs hn sg.1 sn sl vn nb ns eb kd (nI t) (-1) 0
    rw [imax_0 nb ns eb] at ep
    rcases ep with ⟨e1, e2⟩ | ⟨ln, J, e1, e2, e3, e4, e5, e6⟩
    · rw [hbar] at e1; exact absurd e1 (by decide)
    · exact Or.inr ⟨n, ln, J, ⟨hn, hn3, r3, u, hbar⟩, e1, e2, e3, by rw [e5, ob2_s], e6⟩
  · rw [if_neg u]
    exact Or.inl ⟨fun ⟨n, h⟩ => u h.2.2.2.1, rfl⟩
theorem M_wf (hs : Sx R A) (hg : g < 2) (va : ∀ n, n < 6 → n / 3 = g → VN A I n) (ht : t < 16) (nb : NB A I) (nse : ∀ n, n < 6 → n / 3 = g → NS A I n ∧ EB A I n) (ok : Us A I t g → ∃ n, WfP A I t g n) (P : Prop) (f : Nat) : ((¬ ∃ n, WfP A I t g n) ∧ B_Model_commit_232 R (f + 1) (A 110) (nI t) (bI P) (nI g) I = B_Model_commit_232 R f (A 110) (nI t) (bI P) (nI (g + 1)) I) ∨ ∃ n ln J, WfP A I t g n ∧ ln < 60 ∧ I (A 118) n = nI ln ∧ B_Model_commit_232 R (f + 1) (A 110) (nI t) (bI P) (nI g) I = B_Model_commit_232 R f (A 110) (nI t) (bI P) (nI (g + 1)) J ∧ PuM A I J n ln (I (A 113) n) (nx A I n) (cif P 1 2) (nI t) (-1) := by
  rw [B_Model_commit_232]
  unfold B_Model_commit_268 B_Model_commit_279
  rw [if_neg (show ¬ (2 : Int32) ≤ nI g from nI_ge (b := 2) hg (by omega)), M_touches hs ht hg, ob_s, bI_if, M_ready2 hs va hg, ob_s, bI_if, nI_1]
  by_cases u : Us A I t g
  · rw [if_pos u]
    obtain ⟨n, hn, hn3, r3, u2, hbar⟩ := ok u
    obtain ⟨ns, eb⟩ := nse n hn hn3
    have vn := va n hn hn3
    rw [r3, M_next hs hn vn nb ns eb, ob_s]
    have hne : ¬ I (A 118) n = 60 := fun e => by unfold bar at hbar; rw [cif_t e] at hbar; exact absurd hbar (by decide)
    obtain ⟨v1, v2, v3, v4⟩ := vn.s
    have hlt : lnN A I n < 60 := Nat.lt_of_le_of_ne v4 (fun e => hne (by rw [v1, e]; rfl))
    by_cases p : P
    · obtain ⟨J, ej, pj⟩ := M_put (I := I) hs hn hlt v1 1 (nI t) (-1) (nx A I n)
      refine Or.inr ⟨n, lnN A I n, J, ⟨hn, hn3, r3, u, hbar⟩, hlt, v1, ?_, by rw [cif_t p]; exact pj⟩
      rw [if_pos p, ej, ob_s]
    · obtain ⟨J, ej, pj⟩ := M_put (I := I) hs hn hlt v1 2 (nI t) (-1) (nx A I n)
      refine Or.inr ⟨n, lnN A I n, J, ⟨hn, hn3, r3, u, hbar⟩, hlt, v1, ?_, by rw [cif_f p]; exact pj⟩
      rw [if_neg p, ob_s, ej, ob_s]
  · rw [if_neg u]
    exact Or.inl ⟨fun ⟨n, h⟩ => u h.2.2.2.1, rfl⟩
end
