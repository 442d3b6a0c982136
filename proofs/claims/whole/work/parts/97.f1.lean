section
theorem iP_z {ev : Int32} {p : Nat} (h3 : p ≠ 3) (h4 : ¬ (4 ≤ p ∧ p < 46 ∧ (p - 4) % 7 = 0)) (h5 : ¬ (46 ≤ p ∧ p < 110 ∧ (p - 46) % 4 = 2)) (h6 : ¬ (46 ≤ p ∧ p < 110 ∧ (p - 46) % 4 = 3)) (h7 : p ≠ 110) (h8 : ¬ (p = 114 ∨ p = 115)) : iP ev p = fun _ => 0 := by
  funext j
  unfold iP
  rw [if_neg h3, if_neg h4, if_neg h5, if_neg h6, if_neg h7, if_neg h8]
theorem iP_n {ev : Int32} {n : Nat} (hn : n < 6) : iP ev (4 + 7 * n) = fun j => if j = 0 then nI n else if j = 3 then 1 else if j = 8 then (-1) else 0 := by
  funext j
  unfold iP
  rw [if_neg (by omega), if_pos (by omega), show (4 + 7 * n - 4) / 7 = n by omega]
theorem iP_3 {ev : Int32} : iP ev 3 = fun j => if j = 0 then ev else 0 := by
  funext j
  unfold iP
  rw [if_pos rfl]
theorem iP_110 {ev : Int32} : iP ev 110 = fun j => if j = 0 then ev else 0 := by
  funext j
  unfold iP
  rw [if_neg (by omega), if_neg (by omega), if_neg (by omega), if_neg (by omega), if_pos rfl]
theorem iP_v {ev : Int32} {t : Nat} (ht : t < 16) : iP ev (48 + 4 * t) = fun j => if j < 8 then (-1) else 0 := by
  funext j
  unfold iP
  rw [if_neg (by omega), if_neg (by omega), if_pos (by omega)]
theorem iP_e {ev : Int32} {t : Nat} (ht : t < 16) : iP ev (49 + 4 * t) = fun j => if j < 2 then (-1) else 0 := by
  funext j
  unfold iP
  rw [if_neg (by omega), if_neg (by omega), if_neg (by omega), if_pos (by omega)]
theorem iP_p {ev : Int32} {p : Nat} (hp : p = 114 ∨ p = 115) : iP ev p = fun j => if j < 6 then (-1) else 0 := by
  funext j
  unfold iP
  rw [if_neg (by omega), if_neg (by omega), if_neg (by omega), if_neg (by omega), if_neg (by omega), if_pos hp]
theorem i_start {A : Nat → Nat} {I : St} {ev : Int32} (r : ∀ p, p < 131 → I (A p) = iP ev p) (h0 : 0 ≤ ev.toInt) (h1 : ev.toInt ≤ 10) : Inv A I 0 := by
  have z : ∀ p, p < 131 → p ≠ 3 → ¬ (4 ≤ p ∧ p < 46 ∧ (p - 4) % 7 = 0) → ¬ (46 ≤ p ∧ p < 110 ∧ (p - 46) % 4 = 2) → ¬ (46 ≤ p ∧ p < 110 ∧ (p - 46) % 4 = 3) → p ≠ 110 → ¬ (p = 114 ∨ p = 115) → I (A p) = fun _ => 0 := fun p q1 q2 q3 q4 q5 q6 q7 => by rw [r p q1]; exact iP_z q2 q3 q4 q5 q6 q7
  have zm : ∀ p, 111 ≤ p → p < 131 → p ≠ 114 → p ≠ 115 → ∀ j, I (A p) j = 0 := fun p q1 q2 q3 q4 j => by rw [z p q2 (by omega) (by omega) (by omega) (by omega) (by omega) (by omega)]
  have e0 : I (A 110) 0 = ev := by rw [r 110 (by omega), iP_110]; exact if_pos rfl
  have e1 : I (A 110) 1 = 0 := by rw [r 110 (by omega), iP_110]; exact if_neg (by omega)
  have e16 : I (A 110) 16 = 0 := by rw [r 110 (by omega), iP_110]; exact if_neg (by omega)
  have l0 : ∀ n, lnN A I n = 0 := fun n => by unfold lnN; rw [zm 118 (by omega) (by omega) (by omega) (by omega)]; rfl
  have aN0 : ∀ n, aN A I n = 0 := fun n => by
    unfold aN
    by_cases h : n < 6
    · rw [if_pos h]; exact l0 n
    · rw [if_neg h]
  have aK0 : ∀ n, aK A I n = 0 := fun n => by
    unfold aK
    by_cases h : n < 6
    · rw [if_pos h]; unfold knN; rw [zm 119 (by omega) (by omega) (by omega) (by omega)]; rfl
    · rw [if_neg h]
  have aL0 : ∀ n, ¬ aL A I n := fun n h => h.2 (zm 116 (by omega) (by omega) (by omega) (by omega) n)
  have no : ∀ n i, ¬ i < aN A I n := fun n i h => by rw [aN0] at h; omega
  have rd0 : ∀ t g, ¬ RdG A I t g := fun t g ⟨k, q1, q2, q3⟩ => by
    rw [zm 126 (by omega) (by omega) (by omega) (by omega), b_0] at q3
    cases q3
  refine ⟨⟨⟨⟨?_, ?_, ?_⟩, fun n hn => ⟨?_, fun k hk => ?_, ?_⟩⟩, fun t ht => ?_⟩, ⟨?_, fun n hn => ⟨?_, fun j hj => ?_, fun j hj => ?_⟩, ?_, fun t ht _ => ?_⟩, ⟨⟨?_, by omega⟩, fun n hn => ⟨⟨0, by omega, ?_⟩, Or.inl ?_, ?_, fun j hj => ?_⟩⟩, ⟨⟨?_, ?_, ⟨?_, ?_⟩, ?_, ⟨?_, ?_⟩, ⟨?_, ?_⟩, ?_⟩, fun x hx => ?_, ⟨?_, ?_, ?_⟩, fun t ht => ⟨?_, ?_⟩⟩, fun t ht => ⟨⟨0, by omega, ?_⟩, fun _ n j _ hj => ?_, fun e => ?_, fun e => ?_, fun i _ => ?_, ?_, ?_⟩⟩
  · rw [e0, r 3 (by omega), iP_3]; exact if_pos rfl
  · rw [e1, r 3 (by omega), iP_3]; exact if_neg (by omega)
  · rw [e16, z 0 (by omega) (by omega) (by omega) (by omega) (by omega) (by omega) (by omega)]
  · have w : I (A (4 + 7 * n)) = fun j => if j = 0 then nI n else if j = 3 then 1 else if j = 8 then (-1) else 0 := by rw [r _ (by omega)]; exact iP_n hn
    have p4 : I (A 114) n = -1 := by rw [r 114 (by omega), iP_p (by omega)]; exact if_pos hn
    have p5 : I (A 115) n = -1 := by rw [r 115 (by omega), iP_p (by omega)]; exact if_pos hn
    unfold SN
    rw [w, p4, p5, zm 111 (by omega) (by omega) (by omega) (by omega), zm 112 (by omega) (by omega) (by omega) (by omega), zm 113 (by omega) (by omega) (by omega) (by omega), zm 116 (by omega) (by omega) (by omega) (by omega), zm 117 (by omega) (by omega) (by omega) (by omega), zm 118 (by omega) (by omega) (by omega) (by omega), zm 119 (by omega) (by omega) (by omega) (by omega), z (5 + 7 * n) (by omega) (by omega) (by omega) (by omega) (by omega) (by omega) (by omega)]
    exact ⟨rfl, ⟨fun q => absurd (show (1 : Int32) = 0 from q) (by decide), fun q => absurd rfl q⟩, rfl, rfl, rfl, rfl, rfl, Or.inr ⟨rfl, rfl, rfl⟩, rfl, rfl⟩
  · rw [zm 120 (by omega) (by omega) (by omega) (by omega), zm 121 (by omega) (by omega) (by omega) (by omega), zm 122 (by omega) (by omega) (by omega) (by omega), zm 123 (by omega) (by omega) (by omega) (by omega), zm 124 (by omega) (by omega) (by omega) (by omega), z (6 + 7 * n) (by omega) (by omega) (by omega) (by omega) (by omega) (by omega) (by omega), z (7 + 7 * n) (by omega) (by omega) (by omega) (by omega) (by omega) (by omega) (by omega), z (8 + 7 * n) (by omega) (by omega) (by omega) (by omega) (by omega) (by omega) (by omega), z (9 + 7 * n) (by omega) (by omega) (by omega) (by omega) (by omega) (by omega) (by omega), z (10 + 7 * n) (by omega) (by omega) (by omega) (by omega) (by omega) (by omega) (by omega)]
    exact ⟨rfl, rfl, rfl, rfl, rfl⟩
  · exact ⟨0, 0, by rw [zm 118 (by omega) (by omega) (by omega) (by omega)]; rfl, by rw [zm 119 (by omega) (by omega) (by omega) (by omega)]; rfl, by omega, by omega⟩
  · refine ⟨?_, ?_, fun k hk => ⟨?_, ?_, fun q => ?_⟩, fun g hg => ⟨?_, fun q => absurd q (rd0 t g)⟩⟩
    · rw [zm 125 (by omega) (by omega) (by omega) (by omega), z (46 + 4 * t) (by omega) (by omega) (by omega) (by omega) (by omega) (by omega) (by omega)]
    · rw [zm 130 (by omega) (by omega) (by omega) (by omega), z (46 + 4 * t) (by omega) (by omega) (by omega) (by omega) (by omega) (by omega) (by omega)]
    · rw [zm 126 (by omega) (by omega) (by omega) (by omega), b_0, z (47 + 4 * t) (by omega) (by omega) (by omega) (by omega) (by omega) (by omega) (by omega)]
      exact ⟨fun _ => rfl, fun _ => rfl⟩
    · rw [zm 127 (by omega) (by omega) (by omega) (by omega), b_0, r (48 + 4 * t) (by omega), iP_v ht]
      exact ⟨fun _ => rfl, fun _ => if_pos hk⟩
    · rw [zm 127 (by omega) (by omega) (by omega) (by omega), b_0] at q; cases q
    · rw [r (49 + 4 * t) (by omega), iP_e ht]
      exact ⟨fun _ => rd0 t g, fun _ => if_pos hg⟩
  · unfold NB
    rw [e0, e1, t0]
    exact ⟨h0, h1, by omega, by omega⟩
  · unfold NS
    rw [e0, zm 112 (by omega) (by omega) (by omega) (by omega), t0]
    exact ⟨by omega, h0⟩
  · have hj : j < lnN A I n := hj
    rw [l0] at hj; omega
  · have hj : j < lnN A I n := hj
    rw [l0] at hj; omega
  · exact ⟨0, by omega, by rw [e16]; rfl⟩
  · exact zm 130 (by omega) (by omega) (by omega) (by omega) t
  · rw [e1, t0]; omega
  · rw [zm 113 (by omega) (by omega) (by omega) (by omega)]; rfl
  · exact zm 116 (by omega) (by omega) (by omega) (by omega) n
  · rw [zm 117 (by omega) (by omega) (by omega) (by omega), e1, t0]; omega
  · rw [l0] at hj; omega
  · intro n m i _ h; exact absurd h (no _ _)
  · intro n m i j _ _ h; exact absurd h (no _ _)
  · intro n i j _ h; exact absurd h (no _ _)
  · intro n i h; exact absurd h (no _ _)
  · intro n m i _ h; exact absurd h (aL0 n)
  · intro n h; exact absurd h (aL0 n)
  · intro n m i _ h; exact absurd h (no _ _)
  · intro m i h; exact absurd h (no _ _)
  · intro n h; exact absurd h (aL0 n)
  · intro n m i _ _ h; exact absurd h (aL0 n)
  · rw [aK0] at hx; omega
  · intro n h; exact absurd h (aL0 n)
  · intro n m _ h; exact absurd h (aL0 n)
  · intro n m i _ h; exact absurd h (aL0 n)
  · intro n i j h; exact absurd h (no _ _)
  · intro n i j h; exact absurd h (no _ _)
  · rw [zm 125 (by omega) (by omega) (by omega) (by omega)]; rfl
  · rw [l0] at hj; omega
  · rw [zm 125 (by omega) (by omega) (by omega) (by omega)] at e; exact absurd e (by decide)
  · rw [zm 125 (by omega) (by omega) (by omega) (by omega)] at e
    rcases e with e | e
    · exact absurd e (by decide)
    · exact absurd e (by decide)
  · rw [zm 127 (by omega) (by omega) (by omega) (by omega)]; exact b_0 i
  · rw [zm 130 (by omega) (by omega) (by omega) (by omega), t0]; omega
  · rw [zm 130 (by omega) (by omega) (by omega) (by omega), t0, e1, t0]; omega
end
