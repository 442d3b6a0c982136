section
variable {R : Nat → Nat → Nat} {A : Nat → Nat} {I J : St} {n m g k : Nat} {Q : Nat → Prop} {r : Nat → Nat → Int32}
/-- of the class's nodes of a group those before k that Q names have the row r -/
def Lp (A : Nat → Nat) (I : St) (g k : Nat) (Q : Nat → Prop) (r : Nat → Nat → Int32) (J : St) : Prop := Bt A I J (fun p => ∃ m, 3 * g ≤ m ∧ m < k ∧ p = 4 + 7 * m) ∧ ∀ m, 3 * g ≤ m → m < k → J (A (4 + 7 * m)) = cif (Q m) (r m) (I (A (4 + 7 * m)))
theorem Lp.init : Lp A I g (3 * g) Q r I := ⟨fun p hp hP => rfl, fun m h1 h2 => by omega⟩
theorem Lp.at (h : Lp A I g k Q r J) (hk : k < 6) : J (A (4 + 7 * k)) = I (A (4 + 7 * k)) := h.1 _ (by omega) (fun ⟨m, h1, h2, h3⟩ => by omega)
theorem Lp.rd (h : Lp A I g k Q r J) (hn : n < 6) {j : Nat} (hr : r n j = I (A (4 + 7 * n)) j) : J (A (4 + 7 * n)) j = I (A (4 + 7 * n)) j := by
  by_cases hc : 3 * g ≤ n ∧ n < k
  · rw [h.2 n hc.1 hc.2]
    by_cases hq : Q n
    · rw [cif_t hq]; exact hr
    · rw [cif_f hq]
  · rw [h.1 _ (by omega) (fun ⟨m, h1, h2, h3⟩ => hc ⟨by omega, by omega⟩)]
theorem Lp.next (h : Lp A I g k Q r J) {J' : St} (hg : 3 * g ≤ k) (hk : k < 6) (hb : ∀ p, p < 131 → p ≠ 4 + 7 * k → J' (A p) = J (A p)) (hr : J' (A (4 + 7 * k)) = cif (Q k) (r k) (I (A (4 + 7 * k)))) : Lp A I g (k + 1) Q r J' := by
  refine ⟨fun p hp hP => ?_, fun m h1 h2 => ?_⟩
  · by_cases e : p = 4 + 7 * k
    · subst e
      rw [hr]
      exact absurd ⟨k, hg, by omega, rfl⟩ hP
    · rw [hb p hp e]
      exact h.1 p hp (fun ⟨m, h1, h2, h3⟩ => hP ⟨m, h1, by omega, h3⟩)
  · by_cases e : m = k
    · subst e; exact hr
    · rw [hb _ (by omega) (by omega)]
      exact h.2 m h1 (by omega)
noncomputable def qn (Q : Nat → Prop) (m : Nat) : Nat := cif (Q m) 1 0
/-- a node renews its promise -/
def Rn (A : Nat → Nat) (I : St) (n m : Nat) : Prop := I (A 111) m = 0 ∧ I (A 113) m = I (A 113) n
def rB (A : Nat → Nat) (I : St) (n m : Nat) : Nat → Int32 := upd (upd (I (A (4 + 7 * m))) 8 (nI n)) 9 (pm A I m)
theorem C_rn1 (hs : Sx R A) (sa : SA A I) (nu : Num A I) (hn : n < 6) (hg : g < 2) (f c : Nat) (h1 : 3 * g ≤ k) (h2 : k < 3 * g + 3) (hp : Lp A I g k (Rn A I n) (rB A I n) J) : ∃ J', B_Store_renewPromises_10 R (f + 1) (A 0) (A (4 + 7 * n)) (nI (3 * g)) (nI c) (nI k) J = B_Store_renewPromises_10 R f (A 0) (A (4 + 7 * n)) (nI (3 * g)) (nI (c + qn (Rn A I n) k)) (nI (k + 1)) J' ∧ Lp A I g (k + 1) (Rn A I n) (rB A I n) J' := by
  have RS := hs.all
  have hk : k < 6 := by omega
  obtain ⟨s0, s3, s4, s5, s6, s7, s8, s9, l5, l6⟩ := (sa.2 k hk).1
  have z6 := (sa.2 n hn).1.2.2.2.2.1
  have z0 := (sa.2 n hn).1.1
  have a0 := hp.rd hn (j := 0) (by unfold rB; rw [upd_n _ _ (by omega), upd_n _ _ (by omega)])
  have a6 := hp.rd hn (j := 6) (by unfold rB; rw [upd_n _ _ (by omega), upd_n _ _ (by omega)])
  have ak := hp.at hk
  have jm : ∀ p, 110 ≤ p → p < 131 → J (A p) = I (A p) := fun p q1 q2 => hp.1 p q2 (fun ⟨m, w1, w2, w3⟩ => by omega)
  have hc : SC A J := sa.1.cg hp.1 (fun ⟨m, w1, w2, w3⟩ => by omega) (fun ⟨m, w1, w2, w3⟩ => by omega) (fun ⟨m, w1, w2, w3⟩ => by omega)
  rw [B_Store_renewPromises_10]
  unfold B_Store_renewPromises_62
  rw [np3, if_neg (nI_ge (by omega) (by omega))]
  simp only [chk_nI hk (show 6 < 2 ^ 31 by omega), nI_clamp (show k < 2 ^ 31 by omega), RS, hk, nI_1]
  rw [ak, a6, z6, s6]
  by_cases u : I (A 111) k = 0
  · have u3 : ¬ I (A (4 + 7 * k)) 3 = 0 := fun e => (s3.mp e) u
    rw [if_neg u3]
    by_cases w : I (A 113) k = I (A 113) n
    · rw [if_pos w, C_promiseTo (n := n) hs hk hc (by rw [ak, jm 112 (by omega) (by omega)]; exact s5) (by rw [a0]; exact z0), ob_s]
      have hQ : Rn A I n k := ⟨u, w⟩
      have hL : Lat A J k = Lat A I k := by unfold Lat; rw [jm 110 (by omega) (by omega), jm 112 (by omega) (by omega)]
      rw [show qn (Rn A I n) k = 1 from cif_t hQ]
      refine ⟨_, rfl, hp.next h1 hk (fun p q1 q2 => ?_) ?_⟩
      · rw [V_row hs _ _ _ (by omega) q1 q2, V_row hs _ _ _ (by omega) q1 q2]
      · rw [V_same, V_same, ak, hL, pm_c nu.1 (nu.2.1 k hk).1 (sa.2 k hk).1, cif_t hQ]
        rfl
    · have hQ : ¬ Rn A I n k := fun e => w e.2
      rw [if_neg w, show qn (Rn A I n) k = 0 from cif_f hQ]
      exact ⟨J, rfl, hp.next h1 hk (fun p q1 q2 => rfl) (by rw [cif_f hQ]; exact ak)⟩
  · have u3 : I (A (4 + 7 * k)) 3 = 0 := s3.mpr u
    have hQ : ¬ Rn A I n k := fun e => u e.1
    rw [if_pos u3, show qn (Rn A I n) k = 0 from cif_f hQ]
    exact ⟨J, rfl, hp.next h1 hk (fun p q1 q2 => rfl) (by rw [cif_f hQ]; exact ak)⟩
theorem C_renew (hs : Sx R A) (sa : SA A I) (nu : Num A I) (hn : n < 6) (hg : g = n / 3) : ∃ J, F_Store_renewPromises R (A 0) (A (4 + 7 * n)) I = some (nI (qn (Rn A I n) (3 * g) + qn (Rn A I n) (3 * g + 1) + qn (Rn A I n) (3 * g + 2)), J) ∧ Lp A I g (3 * g + 3) (Rn A I n) (rB A I n) J := by
  have z0 := (sa.2 n hn).1.1
  have hg2 : g < 2 := by omega
  unfold F_Store_renewPromises F_Store_firstNodeBeside F_Store_groupOfNode
  rw [z0, nd3 (by omega), ob_s, ob_s, n3', ← hg]
  obtain ⟨J1, e1, p1⟩ := C_rn1 (J := I) hs sa nu hn hg2 99 0 (Nat.le_refl _) (by omega) Lp.init
  obtain ⟨J2, e2, p2⟩ := C_rn1 hs sa nu hn hg2 98 (0 + qn (Rn A I n) (3 * g)) (by omega) (by omega) p1
  obtain ⟨J3, e3, p3⟩ := C_rn1 hs sa nu hn hg2 97 (0 + qn (Rn A I n) (3 * g) + qn (Rn A I n) (3 * g + 1)) (by omega) (by omega) p2
  refine ⟨J3, ?_, p3⟩
  rw [show nI 0 = (0 : Int32) from rfl] at e1
  rw [e1, e2, e3, B_Store_renewPromises_10, np3, if_pos (nI_le (by omega) (by omega)), Nat.zero_add]
/-- the reference's promises of a group before k -/
def Lq (A : Nat → Nat) (I : St) (g k n : Nat) (Q : Nat → Prop) (J : St) : Prop := Bt A I J (fun p => p = 114 ∨ p = 115) ∧ (∀ j, J (A 114) j = cif (3 * g ≤ j ∧ j < k ∧ Q j) (pm A I j) (I (A 114) j)) ∧ ∀ j, J (A 115) j = cif (3 * g ≤ j ∧ j < k ∧ Q j) (nI n) (I (A 115) j)
theorem Lq.init : Lq A I g (3 * g) n Q I := ⟨fun p hp hP => rfl, fun j => by rw [cif_f (fun h => by omega)], fun j => by rw [cif_f (fun h => by omega)]⟩
theorem cif_k {α : Type} {j : Nat} {a b : α} (h1 : 3 * g ≤ k) : cif (3 * g ≤ j ∧ j < k + 1 ∧ Q j) a b = if j = k then cif (Q k) a b else cif (3 * g ≤ j ∧ j < k ∧ Q j) a b := by
  by_cases e : j = k
  · subst e
    rw [if_pos rfl]
    by_cases q : Q j
    · rw [cif_t q, cif_t ⟨h1, by omega, q⟩]
    · rw [cif_f q, cif_f (fun h => q h.2.2)]
  · rw [if_neg e]
    by_cases q : 3 * g ≤ j ∧ j < k ∧ Q j
    · rw [cif_t q, cif_t ⟨q.1, by omega, q.2.2⟩]
    · rw [cif_f q, cif_f (fun h => q ⟨h.1, by omega, h.2.2⟩)]
theorem M_bt1 (hs : Sx R A) (hn : n < 6) (hg : g = n / 3) (f c : Nat) (h1 : 3 * g ≤ k) (h2 : k < 3 * g + 3) (hq : Lq A I g k n (Rn A I n) J) : ∃ J', B_Model_beat_37 R (f + 1) (A 110) (nI n) (nI c) (nI k) J = B_Model_beat_37 R f (A 110) (nI n) (nI (c + qn (Rn A I n) k)) (nI (k + 1)) J' ∧ Lq A I g (k + 1) n (Rn A I n) J' := by
  have RS := hs.all
  have hk : k < 6 := by omega
  obtain ⟨b, b4, b5⟩ := hq
  have jm : ∀ p, p < 131 → p ≠ 114 → p ≠ 115 → J (A p) = I (A p) := fun p q1 q2 q3 => b p q1 (fun e => e.elim q2 q3)
  rw [B_Model_beat_37]
  unfold B_Model_beat_87
  rw [nd3 (by omega), n3', np3, ← hg, if_neg (nI_ge (by omega) (by omega))]
  simp only [chk_nI hk (show 6 < 2 ^ 31 by omega), chk_nI hn (show 6 < 2 ^ 31 by omega), nI_clamp (show k < 2 ^ 31 by omega), nI_clamp (show n < 2 ^ 31 by omega), RS, nI_1]
  rw [jm 111 (by omega) (by omega) (by omega), jm 113 (by omega) (by omega) (by omega)]
  have no : ¬ Rn A I n k → qn (Rn A I n) k = 0 ∧ Lq A I g (k + 1) n (Rn A I n) J := fun hQ => by
    refine ⟨cif_f hQ, b, fun j => ?_, fun j => ?_⟩
    · rw [b4, cif_k h1]
      by_cases e : j = k
      · subst e; rw [if_pos rfl, cif_f hQ, cif_f (fun h => hQ h.2.2)]
      · rw [if_neg e]
    · rw [b5, cif_k h1]
      by_cases e : j = k
      · subst e; rw [if_pos rfl, cif_f hQ, cif_f (fun h => hQ h.2.2)]
      · rw [if_neg e]
  by_cases u : I (A 111) k = 0
  · rw [if_pos u]
    by_cases w : I (A 113) k = I (A 113) n
    · have hQ : Rn A I n k := ⟨u, w⟩
      have hpm : pm A J k = pm A I k := by
        unfold pm Lat
        rw [jm 110 (by omega) (by omega) (by omega), jm 112 (by omega) (by omega) (by omega), b4, cif_f (fun h => by omega)]
      rw [if_pos w, M_promise hs hk, ob_s, ap_s, hpm, show qn (Rn A I n) k = 1 from cif_t hQ]
      refine ⟨_, rfl, fun p hp hP => ?_, fun j => ?_, fun j => ?_⟩
      · rw [V_row hs _ _ _ (p := 115) (by omega) hp (fun e => hP (Or.inr e)), V_row hs _ _ _ (p := 114) (by omega) hp (fun e => hP (Or.inl e))]
        exact b p hp hP
      · rw [V_row hs _ _ _ (p := 115) (by omega) (by omega) (by omega), V_same, cif_k h1]
        by_cases e : j = k
        · subst e; rw [upd_s, if_pos rfl, cif_t hQ]
        · rw [upd_n _ _ e, if_neg e, b4]
      · rw [V_same, V_row hs _ _ _ (p := 114) (by omega) (by omega) (by omega), cif_k h1]
        by_cases e : j = k
        · subst e; rw [upd_s, if_pos rfl, cif_t hQ]
        · rw [upd_n _ _ e, if_neg e, b5]
    · rw [if_neg w, (no (fun e => w e.2)).1]
      exact ⟨J, rfl, (no (fun e => w e.2)).2⟩
  · rw [if_neg u, (no (fun e => u e.1)).1]
    exact ⟨J, rfl, (no (fun e => u e.1)).2⟩
end
