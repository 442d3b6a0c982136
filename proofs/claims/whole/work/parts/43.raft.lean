section
variable {E E' : Nat → Int} {ld ld' : Nat → Prop} {ln ln' : Nat → Nat} {en en' : Nat → Nat → En} {T T' : Int} {le le' pr pr' pt pt' : Nat → Int} {C : En → Prop}
/-- an entry of the kind C is in no log of the group q that may still lead -/
def Lo (E : Nat → Int) (ld : Nat → Prop) (ln : Nat → Nat) (en : Nat → Nat → En) (C : En → Prop) (q : Nat) : Prop :=
  (∀ m i : Nat, m / 3 = q → i < ln m → ¬ C (en m i)) ∨ ∃ (w : Nat → En) (k : Nat), Gd E ld ln en q w k ∧ (∀ j, j < k → ¬ C (w j)) ∧ ∀ m i : Nat, m / 3 = q → i < ln m → C (en m i) → (en m i).1 < (w (k - 1)).1
theorem Lo.none (hr : Rf E ld ln en) (hx : Ls T E ld ln en le pr pt) {n : Nat} (hn : ld n) (h2 : T < le n) (hU : Lo E ld ln en C (n / 3)) : ∀ i, i < ln n → ¬ C (en n i) := by
  rcases hU with hU | ⟨w, k, g, hw, hC⟩
  · exact fun i hi => hU n i rfl hi
  · intro i hi hc
    obtain ⟨g0, ⟨a, b, hab, ha, hb, ga, gb⟩, g3, g4⟩ := g
    have e1 : (w (k - 1)).1 ≤ E n := by
      rw [← ga.2 (k - 1) (by omega)]
      exact hx.2.2 n a (k - 1) ha.symm hn h2 (by have := ga.1; omega)
    have hs := g3 n rfl hn e1
    have hlt := hC n i rfl hi hc
    rw [← hs.2 (k - 1) (by omega)] at hlt
    have : i < k := by
      refine Nat.lt_of_not_le fun hle => ?_
      have := hr.2.2.1.1 n (k - 1) i (by omega) hi
      omega
    rw [hs.2 i this] at hc
    exact hw i this hc
theorem Lo.lost (hr : Rf E ld ln en) (hx : Ls T E ld ln en le pr pt) {kn : Nat → Nat} {n i : Nat} (hn : ld n) (h2 : T < le n) (hk : Kw E ld ln en kn n) (hi : i < kn n) (hie : (en n i).1 = E n) (hno : ∀ i, i < ln n → ¬ C (en n i)) : Lo E ld ln en C (n / 3) := by
  obtain ⟨h1, h2', h3, h4, h5, h6, h8⟩ := hr
  obtain ⟨k1, w, k, k2, g, k3, k4⟩ := hk (by omega)
  have hs := g.2.2.1 n rfl hn k3
  refine Or.inr ⟨w, k, g, fun j hj => by rw [← hs.2 j hj]; exact hno j (by have := hs.1; omega), fun m j hq hj hc => ?_⟩
  have e1 : E n ≤ (w (k - 1)).1 := by
    rw [← hs.2 (k - 1) (by omega), ← hie]
    exact h3.1 n i (k - 1) (by omega) (by have := hs.1; omega)
  have e2 := hx.2.2 n m j hq.symm hn h2 hj
  have e3 : (en m j).1 ≠ E n := by
    intro e
    obtain ⟨f1, f2⟩ := h4 n m j hq.symm hn hj e
    have := h1 n m j hq.symm f1 hj (f2.trans e.symm) j (Nat.le_refl _)
    exact hno j f1 (by rw [this]; exact hc)
  omega
theorem Lo.raise {q : Nat} (hl : ∀ n, ld' n → ld n ∧ E' n = E n) (h : Lo E ld ln en C q) : Lo E' ld' ln en C q := by
  rcases h with h | ⟨w, k, g, hw, hC⟩
  · exact Or.inl h
  · exact Or.inr ⟨w, k, g.raise hl, hw, hC⟩
theorem Lo.elect {S : Nat → Prop} {n b : Nat} {e : Int} {q : Nat} (hl : El E E' ld ld' ln en S n b e) (hr : Rf E ld ln en) (h : Lo E ld ln en C q) : Lo E' ld' ln en C q := by
  rcases h with h | ⟨w, k, g, hw, hC⟩
  · exact Or.inl h
  · exact Or.inr ⟨w, k, g.elect hl hr, hw, hC⟩
theorem Lo.put {n q : Nat} (hp : Pu E ld ln ln' en en' n) (hc : n / 3 = q → ¬ C (en' n (ln n))) (h : Lo E ld ln en C q) : Lo E ld ln' en' C q := by
  rcases h with h | ⟨w, k, g, hw, hC⟩
  · refine Or.inl fun m i hq hi => ?_
    rcases hp.new hi with ⟨a1, a2⟩ | ⟨rfl, rfl, a2⟩
    · rw [a2]; exact h m i hq a1
    · exact hc hq
  · refine Or.inr ⟨w, k, g.put hp, hw, fun m i hq hi hcc => ?_⟩
    rcases hp.new hi with ⟨a1, a2⟩ | ⟨rfl, rfl, a2⟩
    · rw [a2] at hcc ⊢; exact hC m i hq a1 hcc
    · exact absurd hcc (hc hq)
theorem Lo.ship {n m k q : Nat} (hs : Sh E E' ld ld' ln ln' en en' n m k) (hr : Rf E ld ln en) (h : Lo E ld ln en C q) : Lo E' ld' ln' en' C q := by
  rcases h with h | ⟨w, c, g, hw, hC⟩
  · refine Or.inl fun x i hq hi => ?_
    obtain ⟨z, z1, z2, z3, -⟩ := hs.is hr.1 x
    rw [z3 i hi]; exact h z i (by omega) (by omega)
  · refine Or.inr ⟨w, c, g.ship hs hr, hw, fun x i hq hi hcc => ?_⟩
    obtain ⟨z, z1, z2, z3, -⟩ := hs.is hr.1 x
    rw [z3 i hi] at hcc ⊢
    exact hC z i (by omega) (by omega) hcc
/-- at most one entry of a kind in a log -/
def Un (ln : Nat → Nat) (en : Nat → Nat → En) (C : En → Prop) : Prop := ∀ n i j : Nat, i < ln n → j < ln n → C (en n i) → C (en n j) → i = j
theorem Un.put {n : Nat} (hp : Pu E ld ln ln' en en' n) (hc : C (en' n (ln n)) → ∀ i, i < ln n → ¬ C (en n i)) (h : Un ln en C) : Un ln' en' C := by
  intro m i j hi hj ci cj
  rcases hp.new hi with ⟨a1, a2⟩ | ⟨rfl, rfl, a2⟩ <;> rcases hp.new hj with ⟨b1, b2⟩ | ⟨hm, hj2, b2⟩
  · rw [a2] at ci; rw [b2] at cj; exact h m i j a1 b1 ci cj
  · subst hm; subst hj2
    rw [a2] at ci
    exact absurd ci (hc cj i a1)
  · rw [b2] at cj
    exact absurd cj (hc ci j b1)
  · omega
theorem Un.ship {n m k : Nat} (hs : Sh E E' ld ld' ln ln' en en' n m k) (h1 : R1 ln en) (h : Un ln en C) : Un ln' en' C := by
  intro x i j hi hj ci cj
  obtain ⟨z, z1, z2, z3, -⟩ := hs.is h1 x
  rw [z3 i hi] at ci
  rw [z3 j hj] at cj
  exact h z i j (by omega) (by omega) ci cj
end
