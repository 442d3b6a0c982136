section
variable {R : Nat → Nat → Nat} {A : Nat → Nat} {I J : St} {n m g k : Nat} {P : Nat → Prop}
theorem gm.cg (h1 : J (A 121) = I (A 121)) (h2 : J (A 124) = I (A 124)) : ∀ k, gm A J n k = gm A I n k := by
  intro k
  induction k with
  | zero => rfl
  | succ k ih =>
    unfold gm
    rw [ih, h1, h2]
theorem nx.cg (h0 : J (A 110) = I (A 110)) (h1 : J (A 112) = I (A 112)) (h2 : J (A 118) = I (A 118)) (h3 : J (A 121) = I (A 121)) (h4 : J (A 124) = I (A 124)) : nx A J n = nx A I n := by
  unfold nx nxI Lat
  rw [h0, h1, h2, gm.cg h3 h4]
theorem imax_0 (nb : NB A I) (ns : NS A I n) (eb : EB A I n) : imax (nx A I n) 0 = nx A I n := by
  have h := nx_t nb ns eb
  have b := nxI_b nb ns eb
  rw [ieq, imax_t, h, t0]
  unfold mxI
  rw [if_neg (by omega)]
theorem C_isActive2 (hs : Sx R A) (hn : n < 6) (c : SC A I) (s5 : I (A (4 + 7 * n)) 5 = I (A 112) n) : F_Node_isActive R (A (4 + 7 * n)) I = some (bI (¬ I (A (4 + 7 * n)) 4 = 0 ∧ ¬ I (A (4 + 7 * n)) 7 ≤ Lat A I n)) := by
  have e := C_latest2 hs hn c s5
  unfold F_Node_isActive B_Node_isActive_22
  rw [e, ob_s]
  by_cases h1 : I (A (4 + 7 * n)) 4 = 0
  · rw [if_pos h1, bI_f (fun h => h.1 h1)]
  · rw [if_neg h1]
    by_cases h2 : I (A (4 + 7 * n)) 7 ≤ Lat A I n
    · rw [if_pos h2, bI_f (fun h => h.2 h2)]
    · rw [if_neg h2, bI_t ⟨h1, h2⟩]
/-- nothing, or an entry, is written at the end of both logs of n -/
def PE0 (A : Nat → Nat) (I K : St) (n : Nat) : Prop := (∀ p, 5 + 7 * n ≤ p → p < 11 + 7 * n → K (A p) = I (A p)) ∧ K (A 118) = I (A 118) ∧ ∀ p, 120 ≤ p → p < 125 → K (A p) = I (A p)
def PE1 (A : Nat → Nat) (I K : St) (n ln : Nat) (ep st kd ow ou : Int32) : Prop := ln < 60 ∧ I (A 118) n = nI ln ∧ (K (A (5 + 7 * n)) = upd (I (A (5 + 7 * n))) 5 (nI (ln + 1)) ∧ K (A (6 + 7 * n)) = upd (I (A (6 + 7 * n))) ln ep ∧ K (A (7 + 7 * n)) = upd (I (A (7 + 7 * n))) ln st ∧ K (A (8 + 7 * n)) = upd (I (A (8 + 7 * n))) ln kd ∧ K (A (9 + 7 * n)) = upd (I (A (9 + 7 * n))) ln ow ∧ K (A (10 + 7 * n)) = upd (I (A (10 + 7 * n))) ln ou) ∧ (K (A 118) = upd (I (A 118)) n (nI (ln + 1)) ∧ K (A 120) = upd (I (A 120)) (60 * n + ln) ep ∧ K (A 121) = upd (I (A 121)) (60 * n + ln) st ∧ K (A 122) = upd (I (A 122)) (60 * n + ln) kd ∧ K (A 123) = upd (I (A 123)) (60 * n + ln) ow ∧ K (A 124) = upd (I (A 124)) (60 * n + ln) ou)
theorem PE1.of {J1 K1 K : St} {ln : Nat} {ep st kd ow ou : Int32} (hn : n < 6) (hl : ln < 60) (hln : I (A 118) n = nI ln) (hb1 : ∀ p, 5 + 7 * n ≤ p → p < 11 + 7 * n → J1 (A p) = I (A p)) (pc : PuC A J1 J n ln ep st kd ow ou) (hk : ∀ p, 5 + 7 * n ≤ p → p < 11 + 7 * n → K1 (A p) = J (A p)) (hm : ∀ p, p = 118 ∨ (120 ≤ p ∧ p < 125) → K1 (A p) = I (A p)) (pm : PuM A K1 K n ln ep st kd ow ou) : PE1 A I K n ln ep st kd ow ou := by
  obtain ⟨c0, c1, c2, c3, c4, c5, c6⟩ := pc
  obtain ⟨m0, m1, m2, m3, m4, m5, m6⟩ := pm
  refine ⟨hl, hln, ⟨?_, ?_, ?_, ?_, ?_, ?_⟩, ?_, ?_, ?_, ?_, ?_, ?_⟩
  · rw [m0 _ (by omega) (by omega), hk _ (by omega) (by omega), c1, hb1 _ (by omega) (by omega)]
  · rw [m0 _ (by omega) (by omega), hk _ (by omega) (by omega), c2, hb1 _ (by omega) (by omega)]
  · rw [m0 _ (by omega) (by omega), hk _ (by omega) (by omega), c3, hb1 _ (by omega) (by omega)]
  · rw [m0 _ (by omega) (by omega), hk _ (by omega) (by omega), c4, hb1 _ (by omega) (by omega)]
  · rw [m0 _ (by omega) (by omega), hk _ (by omega) (by omega), c5, hb1 _ (by omega) (by omega)]
  · rw [m0 _ (by omega) (by omega), hk _ (by omega) (by omega), c6, hb1 _ (by omega) (by omega)]
  · rw [m1, hm _ (by omega)]
  · rw [m2, hm _ (by omega)]
  · rw [m3, hm _ (by omega)]
  · rw [m4, hm _ (by omega)]
  · rw [m5, hm _ (by omega)]
  · rw [m6, hm _ (by omega)]
theorem upd_id (f : Nat → Int32) (j : Nat) : upd f j (f j) = f := by
  funext i
  unfold upd
  by_cases h : i = j
  · rw [if_pos h, h]
  · rw [if_neg h]
/-- how many nodes renew, and the lease after it -/
noncomputable def rnN (A : Nat → Nat) (I : St) (n : Nat) : Nat := qn (Rn A I n) (3 * (n / 3)) + qn (Rn A I n) (3 * (n / 3) + 1) + qn (Rn A I n) (3 * (n / 3) + 2)
noncomputable def leB (A : Nat → Nat) (I : St) (n : Nat) : Int32 := if 2 ≤ rnN A I n then imax (I (A 117) n) (Ear A I n + 40) else I (A 117) n
theorem qn_le (Q : Nat → Prop) (m : Nat) : qn Q m ≤ 1 := by
  unfold qn
  by_cases h : Q m
  · rw [cif_t h]; exact Nat.le_refl _
  · rw [cif_f h]; omega
theorem rnN_le : rnN A I n ≤ 3 := by
  have h1 := qn_le (Rn A I n) (3 * (n / 3))
  have h2 := qn_le (Rn A I n) (3 * (n / 3) + 1)
  have h3 := qn_le (Rn A I n) (3 * (n / 3) + 2)
  unfold rnN
  omega
/-- the class has renewed: the row of n with the lease, the others' -/
theorem C_beat1 (hs : Sx R A) (sa : SA A I) (nu : Num A I) (hn : n < 6) (hu : I (A 111) n = 0) (hld : ¬ I (A 116) n = 0) : ∃ J1, F_Store_beat R (A 0) (nI n) I = B_Store_beat_67 R (A (4 + 7 * n)) J1 ∧ (∀ p, p < 131 → (∀ m, n / 3 = m / 3 → p ≠ 4 + 7 * m) → J1 (A p) = I (A p)) ∧ (∀ m, n / 3 = m / 3 → m ≠ n → J1 (A (4 + 7 * m)) = cif (Rn A I n m) (rB A I n m) (I (A (4 + 7 * m)))) ∧ J1 (A (4 + 7 * n)) = upd (rB A I n n) 7 (leB A I n) := by
  have RS := hs.all
  obtain ⟨s0, s3, s4, s5, s6, s7, s8, s9, l5, l6⟩ := (sa.2 n hn).1
  obtain ⟨J0, e0, p0⟩ := C_renew (g := n / 3) hs sa nu hn rfl
  have hQ : Rn A I n n := ⟨hu, rfl⟩
  have hrow : J0 (A (4 + 7 * n)) = rB A I n n := by rw [p0.2 n (by omega) (by omega), cif_t hQ]
  have h7 : J0 (A (4 + 7 * n)) 7 = I (A 117) n := by rw [hrow]; unfold rB; rw [upd_n _ _ (by omega), upd_n _ _ (by omega)]; exact s7
  have b0 : ∀ p, p < 131 → (∀ m, n / 3 = m / 3 → p ≠ 4 + 7 * m) → J0 (A p) = I (A p) := fun p hp h => p0.1 p hp (fun ⟨m, h1, h2, h3⟩ => h m (by omega) h3)
  have jm : ∀ p, 110 ≤ p → p < 131 → J0 (A p) = I (A p) := fun p q1 q2 => b0 p q2 (fun m h1 h2 => by omega)
  have hin := in_node R I (nI n)
  have hi : F_Store_isNode R (nI n) I = some 1 := by
    rcases hin with ⟨q1, q2⟩ | ⟨n', hn', e, q1, q2⟩
    · rw [bel6 R I hn] at q2; exact absurd q2 (by decide)
    · exact q1
  have u3 : ¬ I (A (4 + 7 * n)) 3 = 0 := fun e => (s3.mp e) hu
  have u4 : ¬ I (A (4 + 7 * n)) 4 = 0 := fun e => hld (s4 ▸ e)
  have hcnt : qn (Rn A I n) (3 * (n / 3)) + qn (Rn A I n) (3 * (n / 3) + 1) + qn (Rn A I n) (3 * (n / 3) + 2) = rnN A I n := rfl
  have hle := rnN_le (A := A) (I := I) (n := n)
  have e67 : ∀ w, (if nI (rnN A I n) < (2 : Int32) then B_Store_beat_67 R (A (4 + 7 * n)) J0 else (ob (F_Node_earliest R (A (4 + 7 * n)) J0) (fun v55 => (ap (up2 J0 (A (4 + 7 * n)) 7 (imax (J0 (A (4 + 7 * n)) 7) (v55 + (40 : Int32)))) (fun I64 => B_Store_beat_67 R (A (4 + 7 * n)) I64))))) = w → F_Store_beat R (A 0) (nI n) I = w := by
    intro w hw
    unfold F_Store_beat
    rw [hi, ob_s, if_neg (by decide)]
    simp only [chk_nI hn (show 6 < 2 ^ 31 by omega), nI_clamp (show n < 2 ^ 31 by omega), RS, hn]
    rw [if_neg u3, if_neg u4, e0, ob2_s, hcnt]
    exact hw
  by_cases h2 : 2 ≤ rnN A I n
  · have hc : SC A J0 := sa.1.cg p0.1 (fun ⟨m, w1, w2, w3⟩ => by omega) (fun ⟨m, w1, w2, w3⟩ => by omega) (fun ⟨m, w1, w2, w3⟩ => by omega)
    refine ⟨up2 J0 (A (4 + 7 * n)) 7 (leB A I n), e67 _ ?_, fun p hp h => ?_, fun m h1 h3 => ?_, ?_⟩
    · rw [if_neg (show ¬ nI (rnN A I n) < (2 : Int32) from fun e => by rw [ilt, nI_toInt (by omega), show (2 : Int32).toInt = 2 from by decide] at e; omega), C_earliest2 hs hn hc (by rw [hrow]; unfold rB; rw [upd_n _ _ (by omega), upd_n _ _ (by omega), jm 112 (by omega) (by omega)]; exact s5), ob_s, ap_s, h7]
      have hE : Ear A J0 n = Ear A I n := by unfold Ear; rw [jm 110 (by omega) (by omega), jm 112 (by omega) (by omega)]
      rw [hE]
      unfold leB
      rw [if_pos h2]
    · rw [V_row hs _ _ _ (by omega) hp (h n rfl)]; exact b0 p hp h
    · rw [V_row hs _ _ _ (by omega) (by omega) (by omega), p0.2 m (by omega) (by omega)]
    · rw [V_same, hrow]
  · refine ⟨J0, e67 _ ?_, b0, fun m h1 h3 => p0.2 m (by omega) (by omega), ?_⟩
    · rw [if_pos (show nI (rnN A I n) < (2 : Int32) from by rw [ilt, nI_toInt (by omega), show (2 : Int32).toInt = 2 from by decide]; omega)]
    · rw [hrow, show leB A I n = rB A I n n 7 from ?_, upd_id]
      rw [← hrow, h7]
      unfold leB
      rw [if_neg h2]
end
