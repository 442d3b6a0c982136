theorem pure_main {n0 : Nat} {xs : Nat → Int32} (hn : n0 ≤ 2049) : ∀ L : List Nat, L.length = 131 → L.Nodup → ∃ J, B_Law_law_28 (RR L) xs n0 600 (L.getD 0 0) (L.getD 110 0) 1 (I0 L (epsOf (cell0 n0 xs))) = some (1, J) := by
  sorry
