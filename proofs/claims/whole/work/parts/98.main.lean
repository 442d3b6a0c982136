theorem pure_main {n0 : Nat} {xs : Nat → Int32} (hn : n0 ≤ 2049) : ∀ L : List Nat, L.length = 131 → L.Nodup → ∃ J, B_Law_law_28 (RR L) xs n0 600 (L.getD 0 0) (L.getD 110 0) 1 (I0 L (epsOf (cell0 n0 xs))) = some (1, J) := by
  intro L hlen hN
  have hs := Sx.of hlen hN
  have he : ∀ x : Int32, 0 ≤ (epsOf x).toInt ∧ (epsOf x).toInt ≤ 10 := fun x => by
    have h5 : (5 : Int32).toInt = 5 := by decide
    have h10 : (10 : Int32).toInt = 10 := by decide
    unfold epsOf
    by_cases c1 : x < 0
    · rw [if_pos c1, h5]; omega
    · rw [if_neg c1]
      by_cases c2 : 10 < x
      · rw [if_pos c2, h5]; omega
      · rw [if_neg c2]
        rw [ilt, t0] at c1
        rw [ilt, h10] at c2
        omega
  have inv : Inv (fun p => L.getD p 0) (I0 L (epsOf (cell0 n0 xs))) 0 := i_start (fun p hp => by
    funext j
    show iP (epsOf (cell0 n0 xs)) (L.idxOf (L.getD p 0)) j = _
    rw [idx_at hN (by omega)]) (he _).1 (he _).2
  exact law_loop hs hn 600 0 _ (by omega) inv (by omega)
