section
variable {R : Nat → Nat → Nat} {A : Nat → Nat} {I J : St} {n m g k : Nat} {x : Int32}
def rE (A : Nat → Nat) (I : St) (n : Nat) (x : Int32) (m : Nat) : Nat → Int32 := upd (upd (upd (upd (I (A (4 + 7 * m))) 6 x) 4 0) 8 (nI n)) 9 (pm A I m)
theorem rE_o {j : Nat} (h6 : j ≠ 6) (h4 : j ≠ 4) (h8 : j ≠ 8) (h9 : j ≠ 9) : rE A I n x m j = I (A (4 + 7 * m)) j := by
  unfold rE
  rw [upd_n _ _ h9, upd_n _ _ h8, upd_n _ _ h4, upd_n _ _ h6]
theorem C_gg1 (hs : Sx R A) (sa : SA A I) (nu : Num A I) (hn : n < 6) (hg : g < 2) (f c : Nat) (h1 : 3 * g ≤ k) (h2 : k < 3 * g + 3) (hp : Lp A I g k (Gt A I n x) (rE A I n x) J) : ∃ J', B_Store_gatherGrants_11 R (f + 1) (A 0) (A (4 + 7 * n)) x (nI (3 * g)) (nI c) (nI k) J = B_Store_gatherGrants_11 R f (A 0) (A (4 + 7 * n)) x (nI (3 * g)) (nI (c + qn (Gt A I n x) k)) (nI (k + 1)) J' ∧ Lp A I g (k + 1) (Gt A I n x) (rE A I n x) J' := by
  have RS := hs.all
  have hk : k < 6 := by omega
  obtain ⟨sn, sl, vn⟩ := sa.2 k hk
  obtain ⟨snn, sln, vnn⟩ := sa.2 n hn
  have ak := hp.at hk
  have nP : ∀ p, p < 131 → (p < 4 ∨ 39 < p ∨ ∃ a, a < 6 ∧ 5 + 7 * a ≤ p ∧ p < 11 + 7 * a) → ¬ ∃ m, 3 * g ≤ m ∧ m < k ∧ p = 4 + 7 * m := fun p q1 q2 ⟨m, q3, q4, q5⟩ => by
    rcases q2 with h | h | ⟨a, h1, h2, h3⟩ <;> omega
  have lg : ∀ a p, a < 6 → 5 + 7 * a ≤ p → p < 11 + 7 * a → ¬ ∃ m, 3 * g ≤ m ∧ m < k ∧ p = 4 + 7 * m := fun a p q0 q1 q2 => nP p (by omega) (Or.inr (Or.inr ⟨a, q0, q1, q2⟩))
  have mr : MR A I J := fun p q1 q2 => hp.1 p q2 (nP p q2 (by omega))
  have hc : SC A J := sa.1.cg hp.1 (nP _ (by omega) (by omega)) (nP _ (by omega) (by omega)) (nP _ (by omega) (by omega))
  have snJ : SN A J k := sn.cg hp.1 hk (fun ⟨m, q3, q4, q5⟩ => by omega) (lg k _ hk (by omega) (by omega)) (fun p q1 q2 => nP _ (by omega) (by omega))
  have slJ : SL A J k := sl.cg hp.1 hk (fun d hd => lg k _ hk (by omega) (by omega)) (fun p q1 q2 => nP _ (by omega) (by omega))
  have slnJ : SL A J n := sln.cg hp.1 hn (fun d hd => lg n _ hn (by omega) (by omega)) (fun p q1 q2 => nP _ (by omega) (by omega))
  have vnJ : VN A J k := vn.cg hp.1 (nP _ (by omega) (by omega)) (nP _ (by omega) (by omega))
  have vnnJ : VN A J n := vnn.cg hp.1 (nP _ (by omega) (by omega)) (nP _ (by omega) (by omega))
  have z0 : J (A (4 + 7 * n)) 0 = nI n := by rw [hp.rd hn (j := 0) (rE_o (by omega) (by omega) (by omega) (by omega))]; exact snn.1
  have zl : J (A (5 + 7 * n)) 5 = J (A 118) n := by rw [hp.1 _ (by omega) (lg n _ hn (by omega) (by omega)), mr 118 (by omega) (by omega)]; exact snn.2.2.2.2.2.2.2.2.1
  have hGt : Gt A J n x k = Gt A I n x k := by
    unfold Gt Fre Beh lE Ear
    rw [mr 110 (by omega) (by omega), mr 111 (by omega) (by omega), mr 112 (by omega) (by omega), mr 113 (by omega) (by omega), mr 114 (by omega) (by omega), mr 115 (by omega) (by omega), mr 118 (by omega) (by omega), mr 120 (by omega) (by omega)]
  have s3 := snJ.2.1
  rw [mr 111 (by omega) (by omega)] at s3
  rw [B_Store_gatherGrants_11]
  unfold B_Store_gatherGrants_61
  rw [np3, if_neg (nI_ge (by omega) (by omega))]
  simp only [chk_nI hk (show 6 < 2 ^ 31 by omega), nI_clamp (show k < 2 ^ 31 by omega), RS, hk, nI_1]
  by_cases u : I (A 111) k = 0
  · rw [if_neg (fun e => (s3.mp e) u), C_wouldGrant hs hn hk hc snJ z0 zl slnJ slJ vnnJ vnJ (by rw [mr 111 (by omega) (by omega)]; exact u) x, ob_s, bI_if, hGt]
    by_cases hQ : Gt A I n x k
    · rw [if_pos hQ, show qn (Gt A I n x) k = 1 from cif_t hQ]
      have s6 : J (A (4 + 7 * k)) 6 = I (A 113) k := by rw [ak]; exact sn.2.2.2.2.1
      unfold F_Node_takeEpoch
      rw [s6, if_neg hQ.2.1, ap_s, ap_s, ob_s]
      have bt : Bt A J (up2 (up2 J (A (4 + 7 * k)) 6 x) (A (4 + 7 * k)) 4 0) (fun p => p = 4 + 7 * k) := fun p q1 q2 => by
        rw [V_row hs _ _ _ (by omega) q1 q2, V_row hs _ _ _ (by omega) q1 q2]
      have row : up2 (up2 J (A (4 + 7 * k)) 6 x) (A (4 + 7 * k)) 4 0 (A (4 + 7 * k)) = upd (upd (I (A (4 + 7 * k))) 6 x) 4 0 := by rw [V_same, V_same, ak]
      have zz : up2 (up2 J (A (4 + 7 * k)) 6 x) (A (4 + 7 * k)) 4 0 (A (4 + 7 * n)) 0 = nI n := by
        rw [V_up hs _ _ _ _ (by omega) (by omega), if_neg (by omega), V_up hs _ _ _ _ (by omega) (by omega), if_neg (by omega)]
        exact z0
      have hL : Lat A (up2 (up2 J (A (4 + 7 * k)) 6 x) (A (4 + 7 * k)) 4 0) k = Lat A I k := by
        unfold Lat
        rw [bt 110 (by omega) (by omega), bt 112 (by omega) (by omega), mr 110 (by omega) (by omega), mr 112 (by omega) (by omega)]
      generalize up2 (up2 J (A (4 + 7 * k)) 6 x) (A (4 + 7 * k)) 4 0 = J2 at bt row zz hL
      rw [C_promiseTo (n := n) hs hk (hc.cg bt (by omega) (by omega) (by omega)) (by rw [row, upd_n _ _ (by omega), upd_n _ _ (by omega), bt 112 (by omega) (by omega), mr 112 (by omega) (by omega)]; exact sn.2.2.2.1) zz, ob_s]
      refine ⟨_, rfl, hp.next h1 hk (fun p q1 q2 => ?_) ?_⟩
      · rw [V_row hs _ _ _ (by omega) q1 q2, V_row hs _ _ _ (by omega) q1 q2, bt p q1 q2]
      · rw [V_same, V_same, row, hL, upd_n _ _ (show 9 ≠ 4 by omega), upd_n _ _ (show 9 ≠ 6 by omega), pm_c nu.1 (nu.2.1 k hk).1 sn, cif_t hQ]
        rfl
    · rw [if_neg hQ, show qn (Gt A I n x) k = 0 from cif_f hQ]
      exact ⟨J, rfl, hp.next h1 hk (fun p q1 q2 => rfl) (by rw [cif_f hQ]; exact ak)⟩
  · have hQ : ¬ Gt A I n x k := fun e => u e.1
    rw [if_pos (s3.mpr u), show qn (Gt A I n x) k = 0 from cif_f hQ]
    exact ⟨J, rfl, hp.next h1 hk (fun p q1 q2 => rfl) (by rw [cif_f hQ]; exact ak)⟩
theorem C_gather (hs : Sx R A) (sa : SA A I) (nu : Num A I) (hn : n < 6) : ∃ J, F_Store_gatherGrants R (A 0) (A (4 + 7 * n)) x I = some (nI (qn (Gt A I n x) (3 * (n / 3)) + qn (Gt A I n x) (3 * (n / 3) + 1) + qn (Gt A I n x) (3 * (n / 3) + 2)), J) ∧ Lp A I (n / 3) (3 * (n / 3) + 3) (Gt A I n x) (rE A I n x) J := by
  have z0 := (sa.2 n hn).1.1
  have hg2 : n / 3 < 2 := by omega
  unfold F_Store_gatherGrants F_Store_firstNodeBeside F_Store_groupOfNode
  rw [z0, nd3 (by omega), ob_s, ob_s, n3']
  obtain ⟨J1, e1, p1⟩ := C_gg1 (J := I) (x := x) hs sa nu hn hg2 99 0 (Nat.le_refl _) (by omega) Lp.init
  obtain ⟨J2, e2, p2⟩ := C_gg1 hs sa nu hn hg2 98 (0 + qn (Gt A I n x) (3 * (n / 3))) (by omega) (by omega) p1
  obtain ⟨J3, e3, p3⟩ := C_gg1 hs sa nu hn hg2 97 (0 + qn (Gt A I n x) (3 * (n / 3)) + qn (Gt A I n x) (3 * (n / 3) + 1)) (by omega) (by omega) p2
  refine ⟨J3, ?_, p3⟩
  rw [show nI 0 = (0 : Int32) from rfl] at e1
  rw [e1, e2, e3, B_Store_gatherGrants_11, np3, if_pos (nI_le (by omega) (by omega)), Nat.zero_add]
/-- the reference's rows of a group before k -/
def Lg (A : Nat → Nat) (I : St) (g k n : Nat) (x : Int32) (Q : Nat → Prop) (J : St) : Prop := Bt A I J (fun p => 113 ≤ p ∧ p ≤ 116) ∧ (∀ j, J (A 113) j = cif (3 * g ≤ j ∧ j < k ∧ Q j) x (I (A 113) j)) ∧ (∀ j, J (A 114) j = cif (3 * g ≤ j ∧ j < k ∧ Q j) (pm A I j) (I (A 114) j)) ∧ (∀ j, J (A 115) j = cif (3 * g ≤ j ∧ j < k ∧ Q j) (nI n) (I (A 115) j)) ∧ ∀ j, J (A 116) j = cif (3 * g ≤ j ∧ j < k ∧ Q j) 0 (I (A 116) j)
theorem Lg.init {Q : Nat → Prop} : Lg A I g (3 * g) n x Q I := ⟨fun p hp hP => rfl, fun j => by rw [cif_f (fun h => by omega)], fun j => by rw [cif_f (fun h => by omega)], fun j => by rw [cif_f (fun h => by omega)], fun j => by rw [cif_f (fun h => by omega)]⟩
theorem cif_s {α : Type} {j : Nat} {a b : α} {Q : Nat → Prop} (hQ : ¬ Q k) : cif (3 * g ≤ j ∧ j < k + 1 ∧ Q j) a b = cif (3 * g ≤ j ∧ j < k ∧ Q j) a b := by
  by_cases q : 3 * g ≤ j ∧ j < k ∧ Q j
  · rw [cif_t q, cif_t ⟨q.1, by omega, q.2.2⟩]
  · rw [cif_f q, cif_f]
    intro h
    by_cases e : j = k
    · subst e; exact hQ h.2.2
    · exact q ⟨h.1, by omega, h.2.2⟩
theorem Lg.stay {Q : Nat → Prop} (h : Lg A I g k n x Q J) (hQ : ¬ Q k) : Lg A I g (k + 1) n x Q J := ⟨h.1, fun j => by rw [cif_s hQ]; exact h.2.1 j, fun j => by rw [cif_s hQ]; exact h.2.2.1 j, fun j => by rw [cif_s hQ]; exact h.2.2.2.1 j, fun j => by rw [cif_s hQ]; exact h.2.2.2.2 j⟩
theorem M_el1 (hs : Sx R A) (va : ∀ n, n < 6 → VN A I n) (hn : n < 6) (hg : g = n / 3) (f c : Nat) (P : Prop) (h1 : 3 * g ≤ k) (h2 : k < 3 * g + 3) (hq : Lg A I g k n x (Gt A I n x) J) : ∃ J', B_Model_elect_56 R (f + 1) (A 110) (nI n) x (bI P) (nI c) (nI k) J = B_Model_elect_56 R f (A 110) (nI n) x (bI (P ∨ (Gt A I n x k ∧ k = n))) (nI (c + qn (fun m => Gt A I n x m ∧ m ≠ n) k)) (nI (k + 1)) J' ∧ Lg A I g (k + 1) n x (Gt A I n x) J' := by
  have RS := hs.all
  have hk : k < 6 := by omega
  have hq' := hq
  obtain ⟨b, b3, b4, b5, b6⟩ := hq
  have jm : ∀ p, p < 131 → ¬ (113 ≤ p ∧ p ≤ 116) → J (A p) = I (A p) := fun p q1 q2 => b p q1 q2
  have vn : VN A J k := (va k hk).cg b (by omega) (by omega)
  have vnn : VN A J n := (va n hn).cg b (by omega) (by omega)
  have no : ∀ {α : Type} {a b : α}, cif (3 * g ≤ k ∧ k < k ∧ Gt A I n x k) a b = b := fun {α a b} => cif_f (fun h => by omega)
  have hGt : Gt A J n x k = Gt A I n x k := by
    unfold Gt Fre Beh lE Ear
    rw [jm 110 (by omega) (by omega), jm 111 (by omega) (by omega), jm 112 (by omega) (by omega), b3, b4, b5, no, no, no, jm 118 (by omega) (by omega), jm 120 (by omega) (by omega)]
  rw [B_Model_elect_56]
  unfold B_Model_elect_110 B_Model_elect_115 B_Model_elect_129 B_Model_elect_132
  rw [nd3 (by omega), n3', np3, ← hg, if_neg (nI_ge (by omega) (by omega)), M_grants hs hn hk vnn vn x, ob_s, bI_if, hGt]
  by_cases hQ : Gt A I n x k
  · rw [if_pos hQ]
    have hne : ¬ J (A 113) k = x := fun e => by
      have := hQ.2.1
      rw [b3, no] at e
      exact this (by rw [e, ile]; omega)
    have hraise : F_Model_raise R (A 110) (nI k) x J = some (up2 (up2 J (A 116) k 0) (A 113) k x) := by
      unfold F_Model_raise B_Model_raise_28 B_Model_raise_29
      simp only [chk_nI hk (show 6 < 2 ^ 31 by omega), nI_clamp (show k < 2 ^ 31 by omega), RS, ap_s, z0]
      rw [if_neg hne]
      by_cases e : J (A 116) k = 0
      · rw [if_pos e]
      · rw [if_neg e]
    rw [hraise, ob_s]
    have bt : Bt A J (up2 (up2 J (A 116) k 0) (A 113) k x) (fun p => p = 113 ∨ p = 116) := fun p q1 q2 => by
      rw [V_row hs _ _ _ (by omega) q1 (by omega), V_row hs _ _ _ (by omega) q1 (by omega)]
    have hpm : pm A (up2 (up2 J (A 116) k 0) (A 113) k x) k = pm A I k := by
      unfold pm Lat
      rw [bt 110 (by omega) (by omega), bt 112 (by omega) (by omega), bt 114 (by omega) (by omega), jm 110 (by omega) (by omega), jm 112 (by omega) (by omega), b4, no]
    rw [M_promise hs hk, ob_s, chk_nI hk (by omega), nI_clamp (by omega), ap_s, hpm]
    simp only [RS]
    have lg : Lg A I g (k + 1) n x (Gt A I n x) (up2 (up2 (up2 (up2 J (A 116) k 0) (A 113) k x) (A 114) k (pm A I k)) (A 115) k (nI n)) := by
      refine ⟨fun p hp hP => ?_, fun j => ?_, fun j => ?_, fun j => ?_, fun j => ?_⟩
      · rw [V_row hs _ _ _ (p := 115) (by omega) hp (by omega), V_row hs _ _ _ (p := 114) (by omega) hp (by omega), bt p hp (by omega)]
        exact b p hp hP
      · rw [V_row hs _ _ _ (p := 115) (by omega) (by omega) (by omega), V_row hs _ _ _ (p := 114) (by omega) (by omega) (by omega), V_same, V_row hs _ _ _ (p := 116) (by omega) (by omega) (by omega), cif_k h1]
        by_cases e : j = k
        · subst e; rw [upd_s, if_pos rfl, cif_t hQ]
        · rw [upd_n _ _ e, if_neg e, b3]
      · rw [V_row hs _ _ _ (p := 115) (by omega) (by omega) (by omega), V_same, bt 114 (by omega) (by omega), cif_k h1]
        by_cases e : j = k
        · subst e; rw [upd_s, if_pos rfl, cif_t hQ]
        · rw [upd_n _ _ e, if_neg e, b4]
      · rw [V_same, V_row hs _ _ _ (p := 114) (by omega) (by omega) (by omega), bt 115 (by omega) (by omega), cif_k h1]
        by_cases e : j = k
        · subst e; rw [upd_s, if_pos rfl, cif_t hQ]
        · rw [upd_n _ _ e, if_neg e, b5]
      · rw [V_row hs _ _ _ (p := 115) (by omega) (by omega) (by omega), V_row hs _ _ _ (p := 114) (by omega) (by omega) (by omega), V_row hs _ _ _ (p := 113) (by omega) (by omega) (by omega), V_same, cif_k h1]
        by_cases e : j = k
        · subst e; rw [upd_s, if_pos rfl, cif_t hQ]
        · rw [upd_n _ _ e, if_neg e, b6]
    refine ⟨_, ?_, lg⟩
    by_cases e : k = n
    · subst e
      rw [show qn (fun m => Gt A I k x m ∧ m ≠ k) k = 0 from cif_f (fun h => h.2 rfl), bI_t (P := P ∨ (Gt A I k x k ∧ k = k)) (Or.inr ⟨hQ, rfl⟩), if_pos rfl, nI_1, show nI c + (0 : Int32) = nI (c + 0) from nI_add c 0]
      by_cases hb : bI P = 0
      · rw [if_pos hb, if_pos rfl]
      · rw [if_neg hb, if_pos rfl]
    · have ne : ¬ nI k = nI n := fun q => e (nI_inj (by omega) (by omega) q)
      rw [show qn (fun m => Gt A I n x m ∧ m ≠ n) k = 1 from cif_t ⟨hQ, e⟩, if_neg ne, if_neg ne, if_neg ne, nI_1, nI_1, bI_if]
      by_cases hb : P
      · rw [if_pos hb, bI_t (P := P ∨ (Gt A I n x k ∧ k = n)) (Or.inl hb)]
      · rw [if_neg hb, bI_f (P := P ∨ (Gt A I n x k ∧ k = n)) (fun h => h.elim hb (fun q => e q.2))]
  · rw [if_neg hQ, show qn (fun m => Gt A I n x m ∧ m ≠ n) k = 0 from cif_f (fun h => hQ h.1), bI_c (P := P ∨ (Gt A I n x k ∧ k = n)) (Q := P) ⟨fun h => h.elim id (fun q => absurd q.1 hQ), Or.inl⟩, nI_1]
    exact ⟨J, rfl, hq'.stay hQ⟩
end
