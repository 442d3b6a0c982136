section
variable {R : Nat → Nat → Nat} {A : Nat → Nat} {I J K : St} {n m t g b c : Nat}
theorem Inv.uq (h : Inv A I c) (ht : t < 16) (hn : n < 6) : Uq A I n 1 (nI t) ∧ Uq A I n 2 (nI t) := by
  have h60 := (h.1.1.2 n hn).2.2.s.2.2.2
  have key : ∀ w, Un (aN A I) (aV A I) (Ck w (nI t)) → Uq A I n w (nI t) := fun w u j k hj hk mj mk => by
    have hj : j < lnN A I n := hj
    have hk : k < lnN A I n := hk
    have aNn : aN A I n = lnN A I n := by unfold aN; rw [if_pos hn]
    have cv : ∀ i, i < lnN A I n → Mt A I n w (nI t) i → Ck w (nI t) (aV A I n i) := fun i hi m => by
      unfold aV
      rw [if_pos (show i < 60 by omega)]
      exact ⟨by show (I (A 122) (60 * n + i)).toInt = _; rw [m.1], by show (I (A 123) (60 * n + i)).toInt = _; rw [m.2]⟩
    exact u n j k (by rw [aNn]; exact hj) (by rw [aNn]; exact hk) (cv j hj mj) (cv k hk mk)
  exact ⟨key 1 (h.2.2.2.1.2.2.2 t ht).1, key 2 (h.2.2.2.1.2.2.2 t ht).2⟩
theorem f_tick (hs : Sx R A) (h : Inv A I c) (hc : c + 1 ≤ 600) (x : Int32) : ∃ v J K, F_Store_tick R (A 0) x I = some (v, J) ∧ F_Model_tick R (A 110) x J = some (v, K) ∧ Inv A K (c + 1) := by
  rcases e_tick hs h.1.1.1 x with ⟨e1, e2⟩ | ⟨h1, h2, e1, e2⟩
  · exact ⟨_, _, _, e1, e2, h.mono (by omega) hc⟩
  · exact ⟨_, _, _, e1, e2, i_tick hs h hc h1 h2⟩
theorem f_skew (hs : Sx R A) (h : Inv A I c) (hc : c + 1 ≤ 600) (x y : Int32) : ∃ v J K, F_Store_skew R (A 0) x y I = some (v, J) ∧ F_Model_skew R (A 110) x y J = some (v, K) ∧ Inv A K (c + 1) := by
  rcases e_skew hs h.1.1.1 x y with ⟨e1, e2⟩ | ⟨n, hn, -, l1, l2, e1, e2⟩
  · exact ⟨_, _, _, e1, e2, h.mono (by omega) hc⟩
  · exact ⟨_, _, _, e1, e2, (i_skew hs h hn l1 l2).mono (by omega) hc⟩
theorem f_crash (hs : Sx R A) (h : Inv A I c) (hc : c + 1 ≤ 600) (x : Int32) : ∃ v J K, F_Store_crash R (A 0) x I = some (v, J) ∧ F_Model_crash R (A 110) x J = some (v, K) ∧ Inv A K (c + 1) := by
  rcases e_crash hs h.1.1 x with ⟨e1, e2⟩ | ⟨n, hn, -, -, e1, e2⟩
  · exact ⟨_, _, _, e1, e2, h.mono (by omega) hc⟩
  · exact ⟨_, _, _, e1, e2, (i_crash hs h hn).mono (by omega) hc⟩
theorem f_recover (hs : Sx R A) (h : Inv A I c) (hc : c + 1 ≤ 600) (x : Int32) : ∃ v J K, F_Store_recover R (A 0) x I = some (v, J) ∧ F_Model_recover R (A 110) x J = some (v, K) ∧ Inv A K (c + 1) := by
  rcases e_recover hs h.1.1 x with ⟨e1, e2⟩ | ⟨n, hn, -, -, e1, e2⟩
  · exact ⟨_, _, _, e1, e2, h.mono (by omega) hc⟩
  · exact ⟨_, _, _, e1, e2, (i_recover hs h hn).mono (by omega) hc⟩
theorem f_elect (hs : Sx R A) (h : Inv A I c) (hc : c + 1 ≤ 600) (x : Int32) : ∃ v J K, F_Store_elect R (A 0) x I = some (v, J) ∧ F_Model_elect R (A 110) x J = some (v, K) ∧ Inv A K (c + 1) := by
  obtain ⟨v, J, K, e1, e2, h2⟩ := e_elect hs h.1 h.2.1 (fun n hn => by
    obtain ⟨e, q1, q2⟩ := (h.2.2.1.2 n hn).1
    exact ⟨e, by omega, q2⟩) x
  refine ⟨v, J, K, e1, e2, ?_⟩
  rcases h2 with ⟨-, e⟩ | ⟨n, e, hn, -, hu, he, hep, el⟩
  · rw [e]; exact h.mono (by omega) hc
  · exact i_elect hs h hc hn he hep el
theorem f_beat (hs : Sx R A) (h : Inv A I c) (hc : c + 1 ≤ 600) (x : Int32) : ∃ v J K, F_Store_beat R (A 0) x I = some (v, J) ∧ F_Model_beat R (A 110) x J = some (v, K) ∧ Inv A K (c + 1) := by
  obtain ⟨v, J, K, e1, e2, h2⟩ := e_beat hs h.1 h.2.1 x
  refine ⟨v, J, K, e1, e2, ?_⟩
  rcases h2 with ⟨-, e⟩ | ⟨n, hn, -, hu, hl, be⟩
  · rw [e]; exact h.mono (by omega) hc
  · exact (i_beat hs h hn hu hl be).mono (by omega) hc
theorem f_ship (hs : Sx R A) (h : Inv A I c) (hc : c + 1 ≤ 600) (x y : Int32) : ∃ v J K, F_Store_ship R (A 0) x y I = some (v, J) ∧ F_Model_ship R (A 110) x y J = some (v, K) ∧ Inv A K (c + 1) := by
  obtain ⟨v, J, K, e1, e2, h2⟩ := e_ship hs h.1 (fun q hq => (h.2.2.1.2 q hq).2.1) (fun q hq k hk e => by
    have := ((h.2.2.1.2 q hq).2.2.2 k hk).1
    rw [e, tm1] at this
    omega) x y
  refine ⟨v, J, K, e1, e2, ?_⟩
  rcases h2 with ⟨-, e⟩ | ⟨n, m, hn, hm, hnm, hg, hl, he, eJ, eK⟩ | ⟨n, m, hn, hm, hnm, hg, hu, hu2, hl, he, sh⟩
  · rw [e]; exact h.mono (by omega) hc
  · rw [eK, eJ]; exact (i_lead hs h hn).mono (by omega) hc
  · exact (i_ship h hn hm hnm hg hl he sh).mono (by omega) hc
theorem f_begin (hs : Sx R A) (h : Inv A I c) (hc : c + 1 ≤ 600) : ∃ v J K, F_Store_begin R (A 0) I = some (v, J) ∧ F_Model_begin R (A 110) J = some (v, K) ∧ Inv A K (c + 1) := by
  obtain ⟨b, hb, hbe⟩ := h.2.1.2.2.1
  rcases e_begin hs h.1.1.1 hb hbe with ⟨e1, e2⟩ | ⟨hb2, e1, e2⟩
  · exact ⟨_, _, _, e1, e2, h.mono (by omega) hc⟩
  · exact ⟨_, _, _, e1, e2, (i_begin hs h hb2 hbe).mono (by omega) hc⟩
theorem f_read (hs : Sx R A) (h : Inv A I c) (hc : c + 1 ≤ 600) (x y : Int32) : ∃ v J K, F_Store_read R (A 0) x y I = some (v, J) ∧ F_Model_read R (A 110) x y J = some (v, K) ∧ Inv A K (c + 1) := by
  obtain ⟨b, hb, hbe⟩ := h.2.1.2.2.1
  obtain ⟨v, J, K, e1, e2, h2⟩ := e_read hs h.1 h.2.1 hb hbe x y
  exact ⟨v, J, K, e1, e2, (i_read hs h hb h2).mono (by omega) hc⟩
theorem f_write (hs : Sx R A) (h : Inv A I c) (hc : c + 1 ≤ 600) (x y z : Int32) : ∃ v J K, F_Store_write R (A 0) x y z I = some (v, J) ∧ F_Model_write R (A 110) x y z J = some (v, K) ∧ Inv A K (c + 1) := by
  obtain ⟨b, hb, hbe⟩ := h.2.1.2.2.1
  rcases e_write hs h.1 hb hbe x y z with ⟨e1, e2⟩ | ⟨t, key, ht, hk, -, -, h0, hz, -, e1, e2⟩
  · exact ⟨_, _, _, e1, e2, h.mono (by omega) hc⟩
  · exact ⟨_, _, _, e1, e2, (i_write hs h (by omega) hk h0 hz).mono (by omega) hc⟩
theorem f_commit (hs : Sx R A) (h : Inv A I c) (hc : c + 1 ≤ 600) (x : Int32) : ∃ v J K, F_Store_commit R (A 0) x I = some (v, J) ∧ F_Model_commit R (A 110) x J = some (v, K) ∧ Inv A K (c + 1) := by
  obtain ⟨b, hb, hbe⟩ := h.2.1.2.2.1
  obtain ⟨v, J, K, e1, e2, h2⟩ := e_commit hs h.1 h.2.1 hb hbe (fun t ht => (h.2.2.2.2 t ht).2.2.2.2.1) x
  exact ⟨v, J, K, e1, e2, (i_commit hs h hb hbe h2).mono (by omega) hc⟩
theorem f_abort (hs : Sx R A) (h : Inv A I c) (hc : c + 1 ≤ 600) (x : Int32) : ∃ v J K, F_Store_abort R (A 0) x I = some (v, J) ∧ F_Model_abort R (A 110) x J = some (v, K) ∧ Inv A K (c + 1) := by
  obtain ⟨b, hb, hbe⟩ := h.2.1.2.2.1
  rcases e_abort hs h.1 hb hbe x with ⟨e1, e2⟩ | ⟨t, ht, -, h0, e1, e2⟩
  · exact ⟨_, _, _, e1, e2, h.mono (by omega) hc⟩
  · exact ⟨_, _, _, e1, e2, (i_st2 hs h (s := 4) (by omega) (by rw [h0]; decide) (by omega) (by omega) rfl (fun e => by omega) (fun e => by omega)).mono (by omega) hc⟩
theorem f_step (hs : Sx R A) (h : Inv A I c) (hc : c + 1 ≤ 600) (x : Int32) : ∃ v J K, F_Store_step R (A 0) x I = some (v, J) ∧ F_Model_step R (A 110) x J = some (v, K) ∧ Inv A K (c + 1) := by
  obtain ⟨b, hb, hbe⟩ := h.2.1.2.2.1
  obtain ⟨v, J, K, e1, e2, h2⟩ := e_step hs h.1 h.2.1 hb hbe (fun t ht n hn => h.uq ht hn) (fun t ht => (h.2.2.2.2 t ht).1) x
  exact ⟨v, J, K, e1, e2, (i_step hs h hb hbe h2).mono (by omega) hc⟩
end
