section
variable {R : Nat → Nat → Nat} {A : Nat → Nat} {I : St} {n : Nat}
/-- an entry is written at the end of the class's log of n -/
def PuC (A : Nat → Nat) (I J : St) (n ln : Nat) (ep st kd ow ou : Int32) : Prop := Bt A I J (fun p => 5 + 7 * n ≤ p ∧ p < 11 + 7 * n) ∧ J (A (5 + 7 * n)) = upd (I (A (5 + 7 * n))) 5 (nI (ln + 1)) ∧ J (A (6 + 7 * n)) = upd (I (A (6 + 7 * n))) ln ep ∧ J (A (7 + 7 * n)) = upd (I (A (7 + 7 * n))) ln st ∧ J (A (8 + 7 * n)) = upd (I (A (8 + 7 * n))) ln kd ∧ J (A (9 + 7 * n)) = upd (I (A (9 + 7 * n))) ln ow ∧ J (A (10 + 7 * n)) = upd (I (A (10 + 7 * n))) ln ou
/-- and of the reference's -/
def PuM (A : Nat → Nat) (I J : St) (n ln : Nat) (ep st kd ow ou : Int32) : Prop := Bt A I J (fun p => p = 118 ∨ (120 ≤ p ∧ p < 125)) ∧ J (A 118) = upd (I (A 118)) n (nI (ln + 1)) ∧ J (A 120) = upd (I (A 120)) (60 * n + ln) ep ∧ J (A 121) = upd (I (A 121)) (60 * n + ln) st ∧ J (A 122) = upd (I (A 122)) (60 * n + ln) kd ∧ J (A 123) = upd (I (A 123)) (60 * n + ln) ow ∧ J (A 124) = upd (I (A 124)) (60 * n + ln) ou
theorem C_append (hs : Sx R A) (hn : n < 6) {ln : Nat} (hl : ln < 60) (hln : I (A (5 + 7 * n)) 5 = nI ln) (x1 x2 x3 x4 x5 : Int32) : ∃ J, F_Log_append R (A (5 + 7 * n)) x1 x2 x3 x4 x5 I = some J ∧ PuC A I J n ln x1 x2 x3 x4 x5 := by
  have RS := hs.all
  have r6 : ∀ (K : St) (j : Nat) (v : Int32), up2 K (A (6 + 7 * n)) j v (A (5 + 7 * n)) = K (A (5 + 7 * n)) := fun K j v => V_row hs K j v (by omega) (by omega) (by omega)
  have r7 : ∀ (K : St) (j : Nat) (v : Int32), up2 K (A (7 + 7 * n)) j v (A (5 + 7 * n)) = K (A (5 + 7 * n)) := fun K j v => V_row hs K j v (by omega) (by omega) (by omega)
  have r8 : ∀ (K : St) (j : Nat) (v : Int32), up2 K (A (8 + 7 * n)) j v (A (5 + 7 * n)) = K (A (5 + 7 * n)) := fun K j v => V_row hs K j v (by omega) (by omega) (by omega)
  have r9 : ∀ (K : St) (j : Nat) (v : Int32), up2 K (A (9 + 7 * n)) j v (A (5 + 7 * n)) = K (A (5 + 7 * n)) := fun K j v => V_row hs K j v (by omega) (by omega) (by omega)
  have r10 : ∀ (K : St) (j : Nat) (v : Int32), up2 K (A (10 + 7 * n)) j v (A (5 + 7 * n)) = K (A (5 + 7 * n)) := fun K j v => V_row hs K j v (by omega) (by omega) (by omega)
  unfold F_Log_append F_Log_isFull
  rw [hln, if_pos (show nI ln < (60 : Int32) from nI_lt (b := 60) hl (by omega)), ob_s, if_pos rfl]
  simp only [RS, hn, ap_s, r6, r7, r8, r9, r10, hln, chk_nI hl (show 60 < 2 ^ 31 by omega), nI_clamp (show ln < 2 ^ 31 by omega), nI_1]
  refine ⟨_, rfl, ?_, ?_, ?_, ?_, ?_, ?_, ?_⟩
  · intro p hp hP
    rw [V_row hs _ _ _ (p := 5 + 7 * n) (q := p) (by omega) hp (by omega), V_row hs _ _ _ (p := 10 + 7 * n) (q := p) (by omega) hp (by omega), V_row hs _ _ _ (p := 9 + 7 * n) (q := p) (by omega) hp (by omega), V_row hs _ _ _ (p := 8 + 7 * n) (q := p) (by omega) hp (by omega), V_row hs _ _ _ (p := 7 + 7 * n) (q := p) (by omega) hp (by omega), V_row hs _ _ _ (p := 6 + 7 * n) (q := p) (by omega) hp (by omega)]
  · rw [V_same, r10, r9, r8, r7, r6]
  · rw [V_row hs _ _ _ (p := 5 + 7 * n) (q := 6 + 7 * n) (by omega) (by omega) (by omega), V_row hs _ _ _ (p := 10 + 7 * n) (q := 6 + 7 * n) (by omega) (by omega) (by omega), V_row hs _ _ _ (p := 9 + 7 * n) (q := 6 + 7 * n) (by omega) (by omega) (by omega), V_row hs _ _ _ (p := 8 + 7 * n) (q := 6 + 7 * n) (by omega) (by omega) (by omega), V_row hs _ _ _ (p := 7 + 7 * n) (q := 6 + 7 * n) (by omega) (by omega) (by omega), V_same]
  · rw [V_row hs _ _ _ (p := 5 + 7 * n) (q := 7 + 7 * n) (by omega) (by omega) (by omega), V_row hs _ _ _ (p := 10 + 7 * n) (q := 7 + 7 * n) (by omega) (by omega) (by omega), V_row hs _ _ _ (p := 9 + 7 * n) (q := 7 + 7 * n) (by omega) (by omega) (by omega), V_row hs _ _ _ (p := 8 + 7 * n) (q := 7 + 7 * n) (by omega) (by omega) (by omega), V_same, V_row hs _ _ _ (p := 6 + 7 * n) (q := 7 + 7 * n) (by omega) (by omega) (by omega)]
  · rw [V_row hs _ _ _ (p := 5 + 7 * n) (q := 8 + 7 * n) (by omega) (by omega) (by omega), V_row hs _ _ _ (p := 10 + 7 * n) (q := 8 + 7 * n) (by omega) (by omega) (by omega), V_row hs _ _ _ (p := 9 + 7 * n) (q := 8 + 7 * n) (by omega) (by omega) (by omega), V_same, V_row hs _ _ _ (p := 7 + 7 * n) (q := 8 + 7 * n) (by omega) (by omega) (by omega), V_row hs _ _ _ (p := 6 + 7 * n) (q := 8 + 7 * n) (by omega) (by omega) (by omega)]
  · rw [V_row hs _ _ _ (p := 5 + 7 * n) (q := 9 + 7 * n) (by omega) (by omega) (by omega), V_row hs _ _ _ (p := 10 + 7 * n) (q := 9 + 7 * n) (by omega) (by omega) (by omega), V_same, V_row hs _ _ _ (p := 8 + 7 * n) (q := 9 + 7 * n) (by omega) (by omega) (by omega), V_row hs _ _ _ (p := 7 + 7 * n) (q := 9 + 7 * n) (by omega) (by omega) (by omega), V_row hs _ _ _ (p := 6 + 7 * n) (q := 9 + 7 * n) (by omega) (by omega) (by omega)]
  · rw [V_row hs _ _ _ (p := 5 + 7 * n) (q := 10 + 7 * n) (by omega) (by omega) (by omega), V_same, V_row hs _ _ _ (p := 9 + 7 * n) (q := 10 + 7 * n) (by omega) (by omega) (by omega), V_row hs _ _ _ (p := 8 + 7 * n) (q := 10 + 7 * n) (by omega) (by omega) (by omega), V_row hs _ _ _ (p := 7 + 7 * n) (q := 10 + 7 * n) (by omega) (by omega) (by omega), V_row hs _ _ _ (p := 6 + 7 * n) (q := 10 + 7 * n) (by omega) (by omega) (by omega)]
theorem M_put (hs : Sx R A) (hn : n < 6) {ln : Nat} (hl : ln < 60) (hln : I (A 118) n = nI ln) (x2 x3 x4 x5 : Int32) : ∃ J, F_Model_put R (A 110) (nI n) x2 x3 x4 x5 I = some J ∧ PuM A I J n ln (I (A 113) n) x5 x2 x3 x4 := by
  have RS := hs.all
  have q0 : ∀ (K : St) (j : Nat) (v : Int32), up2 K (A 120) j v (A 118) = K (A 118) := fun K j v => V_row hs K j v (by omega) (by omega) (by omega)
  have q1 : ∀ (K : St) (j : Nat) (v : Int32), up2 K (A 121) j v (A 118) = K (A 118) := fun K j v => V_row hs K j v (by omega) (by omega) (by omega)
  have q2 : ∀ (K : St) (j : Nat) (v : Int32), up2 K (A 122) j v (A 118) = K (A 118) := fun K j v => V_row hs K j v (by omega) (by omega) (by omega)
  have q3 : ∀ (K : St) (j : Nat) (v : Int32), up2 K (A 123) j v (A 118) = K (A 118) := fun K j v => V_row hs K j v (by omega) (by omega) (by omega)
  have q4 : ∀ (K : St) (j : Nat) (v : Int32), up2 K (A 124) j v (A 118) = K (A 118) := fun K j v => V_row hs K j v (by omega) (by omega) (by omega)
  unfold F_Model_put
  simp only [chk_nI hn (show 6 < 2 ^ 31 by omega), nI_clamp (show n < 2 ^ 31 by omega), RS, hln, n60, chk_nI (show 60 * n + ln < 360 by omega) (show 360 < 2 ^ 31 by omega), nI_clamp (show 60 * n + ln < 2 ^ 31 by omega), ap_s, q0, q1, q2, q3, q4, nI_1]
  refine ⟨_, rfl, ?_, ?_, ?_, ?_, ?_, ?_, ?_⟩
  · intro p hp hP
    rw [V_row hs _ _ _ (p := 118) (q := p) (by omega) hp (by omega), V_row hs _ _ _ (p := 124) (q := p) (by omega) hp (by omega), V_row hs _ _ _ (p := 123) (q := p) (by omega) hp (by omega), V_row hs _ _ _ (p := 122) (q := p) (by omega) hp (by omega), V_row hs _ _ _ (p := 121) (q := p) (by omega) hp (by omega), V_row hs _ _ _ (p := 120) (q := p) (by omega) hp (by omega)]
  · rw [V_same, q4, q3, q2, q1, q0]
  · rw [V_row hs _ _ _ (p := 118) (q := 120) (by omega) (by omega) (by omega), V_row hs _ _ _ (p := 124) (q := 120) (by omega) (by omega) (by omega), V_row hs _ _ _ (p := 123) (q := 120) (by omega) (by omega) (by omega), V_row hs _ _ _ (p := 122) (q := 120) (by omega) (by omega) (by omega), V_row hs _ _ _ (p := 121) (q := 120) (by omega) (by omega) (by omega), V_same]
  · rw [V_row hs _ _ _ (p := 118) (q := 121) (by omega) (by omega) (by omega), V_row hs _ _ _ (p := 124) (q := 121) (by omega) (by omega) (by omega), V_row hs _ _ _ (p := 123) (q := 121) (by omega) (by omega) (by omega), V_row hs _ _ _ (p := 122) (q := 121) (by omega) (by omega) (by omega), V_same, V_row hs _ _ _ (p := 120) (q := 121) (by omega) (by omega) (by omega)]
  · rw [V_row hs _ _ _ (p := 118) (q := 122) (by omega) (by omega) (by omega), V_row hs _ _ _ (p := 124) (q := 122) (by omega) (by omega) (by omega), V_row hs _ _ _ (p := 123) (q := 122) (by omega) (by omega) (by omega), V_same, V_row hs _ _ _ (p := 121) (q := 122) (by omega) (by omega) (by omega), V_row hs _ _ _ (p := 120) (q := 122) (by omega) (by omega) (by omega)]
  · rw [V_row hs _ _ _ (p := 118) (q := 123) (by omega) (by omega) (by omega), V_row hs _ _ _ (p := 124) (q := 123) (by omega) (by omega) (by omega), V_same, V_row hs _ _ _ (p := 122) (q := 123) (by omega) (by omega) (by omega), V_row hs _ _ _ (p := 121) (q := 123) (by omega) (by omega) (by omega), V_row hs _ _ _ (p := 120) (q := 123) (by omega) (by omega) (by omega)]
  · rw [V_row hs _ _ _ (p := 118) (q := 124) (by omega) (by omega) (by omega), V_same, V_row hs _ _ _ (p := 123) (q := 124) (by omega) (by omega) (by omega), V_row hs _ _ _ (p := 122) (q := 124) (by omega) (by omega) (by omega), V_row hs _ _ _ (p := 121) (q := 124) (by omega) (by omega) (by omega), V_row hs _ _ _ (p := 120) (q := 124) (by omega) (by omega) (by omega)]
/-- the class's put: refused with the bar, or written -/
theorem C_put (hs : Sx R A) (hn : n < 6) (c : SC A I) (sn : SN A I n) (sl : SL A I n) (vn : VN A I n) (nb : NB A I) (ns : NS A I n) (eb : EB A I n) (kd ow ou least : Int32) : (bar A I n (imax (nx A I n) least) < 0 ∧ F_Node_put R (A (4 + 7 * n)) kd ow ou least I = some (bar A I n (imax (nx A I n) least), I)) ∨ ∃ ln J, ln < 60 ∧ I (A 118) n = nI ln ∧ ¬ I (A 117) n ≤ imax (nx A I n) least ∧ bar A I n (imax (nx A I n) least) = 0 ∧ F_Node_put R (A (4 + 7 * n)) kd ow ou least I = some (imax (nx A I n) least, J) ∧ PuC A I J n ln (I (A 113) n) (imax (nx A I n) least) kd ow ou := by
  have RS := hs.all
  have e1 := C_nextStamp hs hn c sn sl vn nb ns eb
  have e2 := C_refusalOf hs hn sn vn (imax (nx A I n) least)
  obtain ⟨ln, kn, v1, v2, v3, v4⟩ := vn
  have hl := sn.2.2.2.2.2.2.2.2.1
  unfold F_Node_put
  rw [e1, ob_s, e2, ob_s]
  unfold bar
  by_cases h : I (A 118) n = 60
  · rw [cif_t h, if_neg (by decide)]
    exact Or.inl ⟨by decide, rfl⟩
  · rw [cif_f h]
    by_cases h2 : I (A 117) n ≤ imax (nx A I n) least
    · rw [cif_t h2, if_neg (by decide)]
      exact Or.inl ⟨by decide, rfl⟩
    · rw [cif_f h2, if_pos (by decide)]
      have hlt : ln < 60 := by
        refine Nat.lt_of_le_of_ne v4 (fun e => h ?_)
        rw [v1, e]; rfl
      simp only [RS, hn]
      obtain ⟨J, e3, h3⟩ := C_append (I := I) hs hn hlt (by rw [hl]; exact v1) (I (A (4 + 7 * n)) 6) (imax (nx A I n) least) kd ow ou
      rw [e3, ob_s]
      rw [sn.2.2.2.2.1] at h3
      exact Or.inr ⟨ln, J, hlt, v1, h2, trivial, rfl, h3⟩
end
