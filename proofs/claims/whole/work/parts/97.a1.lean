section
variable {R : Nat → Nat → Nat} {A : Nat → Nat} {I J : St} {n m : Nat}
theorem smF_cg {a a' b b' : Nat → Int32} {l : Nat} (h1 : ∀ k, k < l → a k = a' k) (h2 : ∀ k, k < l → b k = b' k) : ∀ f s, smF a b l f s = smF a' b' l f s := by
  intro f
  induction f with
  | zero => intro s; rfl
  | succ f ih =>
    intro s
    unfold smF
    by_cases h : l ≤ s
    · rw [if_pos h, if_pos h]
    · rw [if_neg h, if_neg h, h1 s (by omega), h2 s (by omega), ih]
def lnN (A : Nat → Nat) (I : St) (q : Nat) : Nat := (I (A 118) q).toNatClampNeg
def knN (A : Nat → Nat) (I : St) (q : Nat) : Nat := (I (A 119) q).toNatClampNeg
theorem VN.s (vn : VN A I n) : I (A 118) n = nI (lnN A I n) ∧ I (A 119) n = nI (knN A I n) ∧ knN A I n ≤ lnN A I n ∧ lnN A I n ≤ 60 := by
  obtain ⟨ln, kn, v1, v2, v3, v4⟩ := vn
  unfold lnN knN
  rw [v1, v2, nI_clamp (by omega), nI_clamp (by omega)]
  exact ⟨rfl, rfl, v3, v4⟩
/-- how far m's log agrees with n's; its length after a copy; lengths, epochs, known ones after it -/
def sN (A : Nat → Nat) (I : St) (n m : Nat) : Nat := smF (fun k => I (A 120) (60 * m + k)) (fun k => I (A 120) (60 * n + k)) (min (lnN A I n) (lnN A I m)) (min (lnN A I n) (lnN A I m)) 0
def s1N (A : Nat → Nat) (I : St) (n m : Nat) : Nat := if sN A I n m < lnN A I n then sN A I n m + 1 else sN A I n m
def LN (A : Nat → Nat) (I : St) (n m q : Nat) : Nat := if q = m then s1N A I n m else lnN A I q
def EN (A : Nat → Nat) (I : St) (n m q k : Nat) : Int32 := if q = m ∧ k = sN A I n m then I (A 120) (60 * n + k) else I (A 120) (60 * q + k)
noncomputable def xN (A : Nat → Nat) (I : St) (n m : Nat) : Nat := max (knN A I n) (ag (LN A I n m) (EN A I n m) n (I (A 113) n) (lnN A I n))
noncomputable def yN (A : Nat → Nat) (I : St) (n m : Nat) : Nat := max (knN A I m) (min (xN A I n m) (s1N A I n m))
def ldN (A : Nat → Nat) (I : St) (n m : Nat) : Int32 := if I (A 113) m = I (A 113) n then I (A 116) m else 0
theorem sN_b : sN A I n m ≤ lnN A I n ∧ sN A I n m ≤ lnN A I m ∧ s1N A I n m ≤ lnN A I n := by
  have h := smF_b (a := fun k => I (A 120) (60 * m + k)) (b := fun k => I (A 120) (60 * n + k)) (l := min (lnN A I n) (lnN A I m)) (min (lnN A I n) (lnN A I m)) 0 (by omega) (by omega)
  have h2 : sN A I n m ≤ min (lnN A I n) (lnN A I m) := h.2.1
  unfold s1N
  refine ⟨by omega, by omega, ?_⟩
  split <;> omega
/-- an entry of n's log is copied into m's -/
theorem C_follow (hs : Sx R A) (hn : n < 6) (hm : m < 6) (hnm : m ≠ n) (vn : VN A I n) (vm : VN A I m) (l5 : I (A (5 + 7 * n)) 5 = I (A 118) n) (l5m : I (A (5 + 7 * m)) 5 = I (A 118) m) (sl : SL A I n) (slm : SL A I m) (ee : ∀ k, k < lnN A I m → ¬ I (A 120) (60 * m + k) = -1) : ∃ J, F_Log_follow R (A (5 + 7 * m)) (A (5 + 7 * n)) I = some J ∧ Bt A I J (fun p => 5 + 7 * m ≤ p ∧ p < 11 + 7 * m) ∧ J (A (5 + 7 * m)) 5 = nI (s1N A I n m) ∧ J (A (5 + 7 * m)) 6 = I (A (5 + 7 * m)) 6 ∧ (∀ d, d < 5 → J (A (6 + d + 7 * m)) = if sN A I n m < lnN A I n then upd (I (A (6 + d + 7 * m))) (sN A I n m) (I (A (120 + d)) (60 * n + sN A I n m)) else I (A (6 + d + 7 * m))) := by
  have RS := hs.all
  obtain ⟨v1, v2, v3, v4⟩ := vn.s
  obtain ⟨w1, w2, w3, w4⟩ := vm.s
  obtain ⟨b1, b2, b3⟩ := sN_b (A := A) (I := I) (n := n) (m := m)
  have es : F_Log_sameEntries R (A (5 + 7 * m)) (A (5 + 7 * n)) I = some (nI (sN A I n m)) := by
    rw [C_sameE hs hn hm v4 w4 (by rw [l5]; exact v1) (by rw [l5m]; exact w1) (fun k hk => by rw [(slm k (by omega)).1]; exact ee k hk)]
    unfold sN
    rw [smF_cg (fun k hk => (slm k (by omega)).1) (fun k hk => (sl k (by omega)).1)]
  unfold F_Log_follow
  rw [es, ob_s, ap_s]
  have q5 : up2 I (A (5 + 7 * m)) 5 (nI (sN A I n m)) (A (5 + 7 * m)) 5 = nI (sN A I n m) := by rw [V_same, upd_s]
  have qn5 : up2 I (A (5 + 7 * m)) 5 (nI (sN A I n m)) (A (5 + 7 * n)) = I (A (5 + 7 * n)) := V_row hs _ _ _ (by omega) (by omega) (by omega)
  have qo : ∀ p, p < 131 → p ≠ 5 + 7 * m → up2 I (A (5 + 7 * m)) 5 (nI (sN A I n m)) (A p) = I (A p) := fun p h1 h2 => V_row hs _ _ _ (by omega) h1 h2
  rw [q5, qn5, l5, v1]
  by_cases h : sN A I n m < lnN A I n
  · have e1 : s1N A I n m = sN A I n m + 1 := by unfold s1N; rw [if_pos h]
    rw [if_neg (nI_ge h (by omega))]
    simp only [chk_nI (show sN A I n m < 60 by omega) (show 60 < 2 ^ 31 by omega), nI_clamp (show sN A I n m < 2 ^ 31 by omega), RS, hn]
    rw [qo (6 + 7 * n) (by omega) (by omega), qo (7 + 7 * n) (by omega) (by omega), qo (8 + 7 * n) (by omega) (by omega), qo (9 + 7 * n) (by omega) (by omega), qo (10 + 7 * n) (by omega) (by omega)]
    obtain ⟨f1, f2, f3, f4, f5⟩ := sl (sN A I n m) (by omega)
    rw [f1, f2, f3, f4, f5]
    obtain ⟨J, ej, p0, p1, p2, p3, p4, p5, p6⟩ := C_append (I := up2 I (A (5 + 7 * m)) 5 (nI (sN A I n m))) hs hm (show sN A I n m < 60 by omega) q5 (I (A 120) (60 * n + sN A I n m)) (I (A 121) (60 * n + sN A I n m)) (I (A 122) (60 * n + sN A I n m)) (I (A 123) (60 * n + sN A I n m)) (I (A 124) (60 * n + sN A I n m))
    rw [ej, ob_s]
    refine ⟨J, rfl, fun p q1 q2 => ?_, ?_, ?_, fun d hd => ?_⟩
    · rw [p0 p q1 q2, qo p q1 (by omega)]
    · rw [p1, upd_s, e1]
    · rw [p1, upd_n _ _ (by omega), V_same, upd_n _ _ (by omega)]
    · rw [if_pos h]
      rcases (show d = 0 ∨ d = 1 ∨ d = 2 ∨ d = 3 ∨ d = 4 by omega) with e | e | e | e | e <;> subst e
      · rw [show 6 + 0 + 7 * m = 6 + 7 * m by omega, p2, qo (6 + 7 * m) (by omega) (by omega)]
      · rw [show 6 + 1 + 7 * m = 7 + 7 * m by omega, p3, qo (7 + 7 * m) (by omega) (by omega)]
      · rw [show 6 + 2 + 7 * m = 8 + 7 * m by omega, p4, qo (8 + 7 * m) (by omega) (by omega)]
      · rw [show 6 + 3 + 7 * m = 9 + 7 * m by omega, p5, qo (9 + 7 * m) (by omega) (by omega)]
      · rw [show 6 + 4 + 7 * m = 10 + 7 * m by omega, p6, qo (10 + 7 * m) (by omega) (by omega)]
  · have e1 : s1N A I n m = sN A I n m := by unfold s1N; rw [if_neg h]
    rw [if_pos (nI_le (by omega) (by omega))]
    refine ⟨_, rfl, fun p q1 q2 => qo p q1 (by omega), ?_, ?_, fun d hd => ?_⟩
    · rw [q5, e1]
    · rw [V_same, upd_n _ _ (by omega)]
    · rw [if_neg h, qo _ (by omega) (by omega)]
end
