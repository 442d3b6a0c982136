section
variable {R : Nat → Nat → Nat} {A : Nat → Nat} {n0 : Nat} {xs : Nat → Int32}
/-- the law's loop: every call answers alike -/
theorem law_loop (hs : Sx R A) (hn : n0 ≤ 2049) : ∀ (f c : Nat) (I : St), c + f = 600 → Inv A I c → 1 + 4 * c ≤ 2052 → ∃ J, B_Law_law_28 R xs n0 f (A 0) (A 110) (nI (1 + 4 * c)) I = some (1, J) := by
  intro f
  induction f with
  | zero => intro c I h1 h2 h3; omega
  | succ f ih =>
    intro c I hcf h hc
    rw [B_Law_law_28]
    have hsub : (Int32.ofNat n0 - (4 : Int32)).toInt = (n0 : Int) - 4 := by
      have h1 : (nI n0).toInt = n0 := nI_toInt (by omega)
      have h2 : (4 : Int32).toInt = 4 := by decide
      show (nI n0 - (4 : Int32)).toInt = (n0 : Int) - 4
      rw [is9 (by omega) (by omega), h1, h2]
    by_cases hend : Int32.ofNat n0 - (4 : Int32) < nI (1 + 4 * c)
    · rw [if_pos hend]; exact ⟨_, rfl⟩
    rw [if_neg hend]
    rw [ilt, hsub, nI_toInt (by omega)] at hend
    have hk : 1 + 4 * c + 4 ≤ n0 := by omega
    have hc6 : c + 1 ≤ 600 := by omega
    have e1 : nI (1 + 4 * c) + (1 : Int32) = nI (1 + 4 * c + 1) := nI_add _ _
    have e2 : nI (1 + 4 * c) + (2 : Int32) = nI (1 + 4 * c + 2) := nI_add _ _
    have e3 : nI (1 + 4 * c) + (3 : Int32) = nI (1 + 4 * c + 3) := nI_add _ _
    have e4 : nI (1 + 4 * c) + (4 : Int32) = nI (1 + 4 * (c + 1)) := by
      rw [show 1 + 4 * (c + 1) = 1 + 4 * c + 4 by omega]
      exact nI_add _ _
    have sm := h.1
    have nu := h.2.1
    have fin : ∀ K, Inv A K (c + 1) → ∃ J, B_Law_law_656 R xs n0 (B_Law_law_28 R xs n0 f) (A 0) (A 110) (nI (1 + 4 * c)) K = some (1, J) := fun K hK => by
      unfold B_Law_law_656
      rw [e4]
      exact ih (c + 1) K (by omega) hK (by omega)
    simp only [e1, e2, e3, chk_nI (show 1 + 4 * c < n0 by omega) (show n0 < 2 ^ 31 by omega), chk_nI (show 1 + 4 * c + 1 < n0 by omega) (show n0 < 2 ^ 31 by omega), chk_nI (show 1 + 4 * c + 2 < n0 by omega) (show n0 < 2 ^ 31 by omega), chk_nI (show 1 + 4 * c + 3 < n0 by omega) (show n0 < 2 ^ 31 by omega), nI_clamp (show 1 + 4 * c < 2 ^ 31 by omega), nI_clamp (show 1 + 4 * c + 1 < 2 ^ 31 by omega), nI_clamp (show 1 + 4 * c + 2 < 2 ^ 31 by omega), nI_clamp (show 1 + 4 * c + 3 < 2 ^ 31 by omega)]
    generalize xs (1 + 4 * c) &&& (31 : Int32) = op
    generalize xs (1 + 4 * c + 1) = x
    generalize xs (1 + 4 * c + 2) = y
    generalize xs (1 + 4 * c + 3) = z
    by_cases c0 : op = 0
    · obtain ⟨v, J, K, a1, a2, a3⟩ := f_tick hs h hc6 x
      rw [if_pos c0, a1, ob2_s, a2, ob2_s, if_pos rfl]
      exact fin K a3
    rw [if_neg c0]
    by_cases c1 : op = 1
    · obtain ⟨v, J, K, a1, a2, a3⟩ := f_skew hs h hc6 x y
      rw [if_pos c1, a1, ob2_s, a2, ob2_s, if_pos rfl]
      exact fin K a3
    rw [if_neg c1]
    by_cases c2 : op = 2
    · obtain ⟨v, J, K, a1, a2, a3⟩ := f_crash hs h hc6 x
      rw [if_pos c2, a1, ob2_s, a2, ob2_s, if_pos rfl]
      exact fin K a3
    rw [if_neg c2]
    by_cases c3 : op = 3
    · obtain ⟨v, J, K, a1, a2, a3⟩ := f_recover hs h hc6 x
      rw [if_pos c3, a1, ob2_s, a2, ob2_s, if_pos rfl]
      exact fin K a3
    rw [if_neg c3]
    by_cases c4 : op = 4
    · obtain ⟨v, J, K, a1, a2, a3⟩ := f_elect hs h hc6 x
      rw [if_pos c4, a1, ob2_s, a2, ob2_s, if_pos rfl]
      exact fin K a3
    rw [if_neg c4]
    by_cases c5 : op = 5
    · obtain ⟨v, J, K, a1, a2, a3⟩ := f_beat hs h hc6 x
      rw [if_pos c5, a1, ob2_s, a2, ob2_s, if_pos rfl]
      exact fin K a3
    rw [if_neg c5]
    by_cases c6 : op = 6
    · obtain ⟨v, J, K, a1, a2, a3⟩ := f_ship hs h hc6 x y
      rw [if_pos c6, a1, ob2_s, a2, ob2_s, if_pos rfl]
      exact fin K a3
    rw [if_neg c6]
    by_cases c7 : op = 7
    · obtain ⟨v, J, K, a1, a2, a3⟩ := f_begin hs h hc6
      rw [if_pos c7, a1, ob2_s, a2, ob2_s, if_pos rfl]
      exact fin K a3
    rw [if_neg c7]
    by_cases c8 : op = 8
    · obtain ⟨v, J, K, a1, a2, a3⟩ := f_read hs h hc6 x y
      rw [if_pos c8, a1, ob2_s, a2, ob2_s, if_pos rfl]
      exact fin K a3
    rw [if_neg c8]
    by_cases c9 : op = 9
    · obtain ⟨v, J, K, a1, a2, a3⟩ := f_write hs h hc6 x y z
      rw [if_pos c9, a1, ob2_s, a2, ob2_s, if_pos rfl]
      exact fin K a3
    rw [if_neg c9]
    by_cases c10 : op = 10
    · obtain ⟨v, J, K, a1, a2, a3⟩ := f_commit hs h hc6 x
      rw [if_pos c10, a1, ob2_s, a2, ob2_s, if_pos rfl]
      exact fin K a3
    rw [if_neg c10]
    by_cases c11 : op = 11
    · obtain ⟨v, J, K, a1, a2, a3⟩ := f_abort hs h hc6 x
      rw [if_pos c11, a1, ob2_s, a2, ob2_s, if_pos rfl]
      exact fin K a3
    rw [if_neg c11]
    by_cases c12 : op = 12
    · obtain ⟨v, J, K, a1, a2, a3⟩ := f_step hs h hc6 x
      rw [if_pos c12, a1, ob2_s, a2, ob2_s, if_pos rfl]
      exact fin K a3
    rw [if_neg c12]
    by_cases c13 : op = 13
    · obtain ⟨v, a1, a2⟩ := q_state hs sm nu x
      rw [if_pos c13, a1, ob_s, a2, ob_s, if_pos rfl]
      exact fin I (h.mono (by omega) hc6)
    rw [if_neg c13]
    by_cases c14 : op = 14
    · obtain ⟨v, a1, a2⟩ := q_stamp hs sm nu x
      rw [if_pos c14, a1, ob_s, a2, ob_s, if_pos rfl]
      exact fin I (h.mono (by omega) hc6)
    rw [if_neg c14]
    by_cases c15 : op = 15
    · obtain ⟨v, a1, a2⟩ := q_snapshot hs sm nu x y z
      rw [if_pos c15, a1, ob_s, a2, ob_s, if_pos rfl]
      exact fin I (h.mono (by omega) hc6)
    rw [if_neg c15]
    by_cases c16 : op = 16
    · obtain ⟨v, a1, a2⟩ := q_safe hs sm nu x
      rw [if_pos c16, a1, ob_s, a2, ob_s, if_pos rfl]
      exact fin I (h.mono (by omega) hc6)
    rw [if_neg c16]
    by_cases c17 : op = 17
    · obtain ⟨v, a1, a2⟩ := q_length hs sm x
      rw [if_pos c17, a1, ob_s, a2, ob_s, if_pos rfl]
      exact fin I (h.mono (by omega) hc6)
    rw [if_neg c17]
    by_cases c18 : op = 18
    · obtain ⟨v, a1, a2⟩ := q_known hs sm x
      rw [if_pos c18, a1, ob_s, a2, ob_s, if_pos rfl]
      exact fin I (h.mono (by omega) hc6)
    rw [if_neg c18]
    by_cases c19 : op = 19
    · obtain ⟨v, a1, a2⟩ := q_leader hs sm x
      rw [if_pos c19, a1, ob_s, a2, ob_s, if_pos rfl]
      exact fin I (h.mono (by omega) hc6)
    rw [if_neg c19]
    exact fin I (h.mono (by omega) hc6)
end
