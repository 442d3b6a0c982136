section
variable {E E' : Nat → Int} {ld ld' : Nat → Prop} {ln ln' : Nat → Nat} {en en' : Nat → Nat → En}
/-- a leader n ships to m -/
def Sh (E E' : Nat → Int) (ld ld' : Nat → Prop) (ln ln' : Nat → Nat) (en en' : Nat → Nat → En) (n m k : Nat) : Prop :=
  (ld n ∧ n ≠ m ∧ n / 3 = m / 3 ∧ E m ≤ E n ∧ E' m = E n ∧ (∀ x, x ≠ m → E' x = E x) ∧ ¬ ld' m ∧ (∀ x, ld' x → ld x)) ∧
  (k ≤ ln n ∧ k ≤ ln m ∧ (∀ j, j < k → (en n j).1 = (en m j).1) ∧ (k = ln n ∨ k = ln m ∨ (en n k).1 ≠ (en m k).1) ∧ ln' m = (if k < ln n then k + 1 else k) ∧ (∀ j, j < k → en' m j = en m j) ∧ (k < ln n → en' m k = en n k)) ∧
  (∀ x, x ≠ m → ln' x = ln x) ∧ (∀ x j, x ≠ m → en' x j = en x j)
theorem Sh.pre {n m k : Nat} (h : Sh E E' ld ld' ln ln' en en' n m k) (h1 : R1 ln en) : k ≤ ln' m ∧ ln' m ≤ k + 1 ∧ ln' m ≤ ln n ∧ (∀ j, j < ln' m → en' m j = en n j) ∧ (∀ c, c ≤ ln m → c ≤ ln n → (∀ j, j < c → en m j = en n j) → c ≤ k) := by
  obtain ⟨⟨hl, hnm, hq, hE, -, -, -, -⟩, ⟨k1, k2, k3, k4, k5, k6, k7⟩, -, -⟩ := h
  have hk : k ≤ ln' m ∧ ln' m ≤ k + 1 ∧ ln' m ≤ ln n := by
    rw [k5]
    by_cases hk : k < ln n
    · rw [if_pos hk]; omega
    · rw [if_neg hk]; omega
  refine ⟨hk.1, hk.2.1, hk.2.2, fun j hj => ?_, fun c c1 c2 c3 => ?_⟩
  · by_cases hjk : j < k
    · rw [k6 j hjk]
      exact (h1 n m j hq (by omega) (by omega) (k3 j hjk) j (Nat.le_refl _)).symm
    · have : j = k := by omega
      subst this
      exact k7 (by omega)
  · refine Nat.le_of_not_lt fun hc => ?_
    rcases k4 with e | e | e
    · omega
    · omega
    · exact e (by rw [c3 k hc])
theorem Sh.hs {n m k : Nat} (h : Sh E E' ld ld' ln ln' en en' n m k) (h1 : R1 ln en) {x : Nat} {w : Nat → En} {c : Nat} (hx : Hs ln en x w c) (hn : x = m → Hs ln en n w c) : Hs ln' en' x w c := by
  by_cases hxm : x = m
  · have hn9 := hn hxm
    clear hn
    subst hxm
    obtain ⟨p1, p2, p3, p4, p5⟩ := h.pre h1
    have hc := p5 c hx.1 hn9.1 (fun j hj => by rw [hx.2 j hj, hn9.2 j hj])
    exact ⟨by omega, fun j hj => by rw [p4 j (by omega)]; exact hn9.2 j hj⟩
  · exact ⟨by rw [h.2.2.1 x hxm]; exact hx.1, fun j hj => by rw [h.2.2.2 x j hxm]; exact hx.2 j hj⟩
theorem Gd.ship {n m k : Nat} (h : Sh E E' ld ld' ln ln' en en' n m k) (hr : Rf E ld ln en) {q : Nat} {w : Nat → En} {c : Nat} (g : Gd E ld ln en q w c) : Gd E' ld' ln' en' q w c := by
  have h' := h
  obtain ⟨h1, h2, h3, h4, h5, h6, h8⟩ := hr
  obtain ⟨g0, ⟨a, b, hab, ha, hb, ga, gb⟩, g3, g4⟩ := g
  obtain ⟨⟨hl, hnm, hq, hE, hEm, hEx, hldm, hld⟩, hk, hlx, hex⟩ := h
  have hn : ∀ x, x / 3 = q → Hs ln en x w c → x = m → Hs ln en n w c := by
    intro x hxq hx hxm
    subst hxm
    have e1 : (w (c - 1)).1 ≤ E x := by
      rw [← hx.2 (c - 1) (by omega)]
      exact h3.2 x _ (by have := hx.1; omega)
    exact g3 n (hq.trans hxq) hl (by omega)
  have hall : ∀ x, x / 3 = q → Hs ln en x w c → Hs ln' en' x w c := fun x hxq hx => h'.hs h1 hx (hn x hxq hx)
  refine ⟨g0, ⟨a, b, hab, ha, hb, hall a ha ga, hall b hb gb⟩, fun x hxq hx he => ?_, fun x i hxq hi he => ?_⟩
  · have hxm : x ≠ m := fun e => hldm (e ▸ hx)
    rw [hEx x hxm] at he
    exact hall x hxq (g3 x hxq (hld x hx) he)
  · by_cases hxm : x = m
    · subst hxm
      obtain ⟨p1, p2, p3, p4, p5⟩ := h'.pre h1
      rw [p4 i hi] at he
      have hs := g4 n i (hq.trans hxq) (by omega) he
      have hci : c - 1 < i := by
        refine Nat.lt_of_not_le fun hle => ?_
        have := h3.1 n i (c - 1) hle (by have := hs.1; omega)
        rw [hs.2 (c - 1) (by omega)] at this
        omega
      exact ⟨by omega, fun j hj => by rw [p4 j (by omega)]; exact hs.2 j hj⟩
    · rw [hlx x hxm] at hi
      rw [hex x i hxm] at he
      exact hall x hxq (g4 x i hxq hi he)
theorem Sh.is {n m k : Nat} (h : Sh E E' ld ld' ln ln' en en' n m k) (h1 : R1 ln en) (x : Nat) : ∃ z, z / 3 = x / 3 ∧ ln' x ≤ ln z ∧ (∀ j, j < ln' x → en' x j = en z j) ∧ (x ≠ m → z = x) ∧ (x = m → z = n) := by
  by_cases hxm : x = m
  · subst hxm
    obtain ⟨p1, p2, p3, p4, p5⟩ := h.pre h1
    exact ⟨n, h.1.2.2.1, p3, p4, fun e => absurd rfl e, fun _ => rfl⟩
  · exact ⟨x, rfl, by rw [h.2.2.1 x hxm]; exact Nat.le_refl _, fun j _ => h.2.2.2 x j hxm, fun _ => rfl, fun e => absurd e hxm⟩
theorem Rf.ship {n m k : Nat} (h : Sh E E' ld ld' ln ln' en en' n m k) (hr : Rf E ld ln en) : Rf E' ld' ln' en' := by
  have h' := h
  have hr' := hr
  obtain ⟨h1, h2, h3, h4, h5, h6, h8⟩ := hr
  obtain ⟨⟨hl, hnm, hq, hE, hEm, hEx, hldm, hld⟩, hk, hlx, hex⟩ := h
  obtain ⟨p1, p2, p3, p4, p5⟩ := h'.pre h1
  have hE2 : ∀ x, E x ≤ E' x := by
    intro x
    by_cases hx : x = m
    · subst hx; rw [hEm]; exact hE
    · rw [hEx x hx]; exact Int.le_refl _
  have ne : ∀ x, ld' x → x ≠ m := fun x hx e => hldm (e ▸ hx)
  refine ⟨?_, ?_, ⟨?_, ?_⟩, ?_, ⟨?_, ?_⟩, ⟨?_, ?_⟩, ?_⟩
  · intro x y i hxy hi hj he j hji
    obtain ⟨z, z1, z2, z3, -⟩ := h'.is h1 x
    obtain ⟨z', w1, w2, w3, -⟩ := h'.is h1 y
    rw [z3 i hi, w3 i hj] at he
    rw [z3 j (by omega), w3 j (by omega)]
    exact h1 z z' i (by omega) (by omega) (by omega) he j hji
  · intro x y i j hxy hij hi hj he
    obtain ⟨z, z1, z2, z3, -⟩ := h'.is h1 x
    obtain ⟨z', w1, w2, w3, -⟩ := h'.is h1 y
    rw [z3 i hi, w3 j hj] at he
    rw [z3 i hi, w3 i (by omega)]
    exact h2 z z' i j (by omega) hij (by omega) (by omega) he
  · intro x i j hij hj
    obtain ⟨z, z1, z2, z3, -⟩ := h'.is h1 x
    rw [z3 i (by omega), z3 j hj]
    exact h3.1 z i j hij (by omega)
  · intro x i hi
    obtain ⟨z, z1, z2, z3, z4, z5⟩ := h'.is h1 x
    rw [z3 i hi]
    have := h3.2 z i (by omega)
    by_cases hx : x = m
    · have hz := z5 hx
      subst hx
      subst hz
      rw [hEm]; exact this
    · have hz := z4 hx
      subst hz
      exact Int.le_trans this (hE2 _)
  · intro x y i hxy hx hi he
    obtain ⟨z', w1, w2, w3, -⟩ := h'.is h1 y
    rw [w3 i hi, hEx x (ne x hx)] at he
    rw [hlx x (ne x hx), hex x i (ne x hx), hEx x (ne x hx)]
    exact h4 x z' i (by omega) (hld x hx) (by omega) he
  · intro x hx
    rw [hEx x (ne x hx)]
    exact h5.1 x (hld x hx)
  · intro x y i hxy hi he
    obtain ⟨z', w1, w2, w3, -⟩ := h'.is h1 y
    rw [w3 i hi] at he ⊢
    exact Int.le_trans (h5.2 x z' i (by omega) (by omega) he) (hE2 x)
  · intro y i hi
    obtain ⟨z', w1, w2, w3, -⟩ := h'.is h1 y
    rw [w3 i hi]
    obtain ⟨a, b, hab, ha, hb, e1, e2⟩ := h6.1 z' i (by omega)
    exact ⟨a, b, hab, by omega, by omega, Int.le_trans e1 (hE2 a), Int.le_trans e2 (hE2 b)⟩
  · intro x hx
    obtain ⟨b, hb, hbq, he⟩ := h6.2 x (hld x hx)
    exact ⟨b, hb, hbq, by rw [hEx x (ne x hx)]; exact Int.le_trans he (hE2 b)⟩
  · intro x y i hxy hxy2 hx hi he
    have hxm := ne x hx
    have hex' : ∀ j, j < i + 1 → en' x j = en x j := fun j _ => hex x j hxm
    rw [hEx x hxm] at he
    by_cases hy : y = m
    · subst hy
      rw [p4 i hi] at he
      by_cases hxn : x = n
      · subst hxn
        by_cases hik : i < k
        · have e2 : (en y i).1 = E x := by rw [← hk.2.2.1 i hik]; exact he
          exact ((h8 x y i hxy hxy2 hl (by omega) e2).ship h' hr').cong hex'
        · -- the entry that came now
          have hs1 : Hs ln' en' x (en x) (i + 1) := ⟨by rw [hlx x hxm]; omega, hex'⟩
          have hs2 : Hs ln' en' y (en x) (i + 1) := ⟨hi, fun j hj => p4 j (by omega)⟩
          refine Gd.cong (w := en x) ⟨by omega, ⟨x, y, hxy2, rfl, hxy.symm, hs1, hs2⟩, fun z hz hz1 hz2 => ?_, fun z j hz hj hz2 => ?_⟩ hex'
          · have hz2 : E x ≤ E' z := by rw [← he]; exact hz2
            have hzm := ne z hz1
            rw [hEx z hzm] at hz2
            by_cases hzx : z = x
            · subst hzx; exact hs1
            · exfalso
              obtain ⟨b, hb, hbq, hbe⟩ := h6.2 z (hld z hz1)
              by_cases heq : E z = E x
              · exact hzx (same_lead h5 hz (hld z hz1) hl heq)
              · have : b = x ∨ b = y := by omega
                rcases this with e | e <;> subst e <;> omega
          · exfalso
            have hz2 : E x < (en' z j).1 := by rw [← he]; exact hz2
            obtain ⟨z', w1, w2, w3, -⟩ := h'.is h1 z
            rw [w3 j hj] at hz2
            obtain ⟨a, b, hab, ha, hb, e1, e2⟩ := h6.1 z' j (by omega)
            rcases three hab hxy2 (q := x / 3) (by omega) (by omega) rfl hxy.symm with e | e | e | e <;> subst e <;> omega
      · exact ((h8 x n i (by omega) hxn (hld x hx) (by omega) he).ship h' hr').cong hex'
    · rw [hlx y hy] at hi
      rw [hex y i hy] at he
      exact ((h8 x y i hxy hxy2 (hld x hx) hi he).ship h' hr').cong hex'
/-- what was known at m is not cut -/
theorem Kw.ship {n m k : Nat} {kn : Nat → Nat} (h : Sh E E' ld ld' ln ln' en en' n m k) (hr : Rf E ld ln en) (hk : ∀ x, Kw E ld ln en kn x) (x : Nat) : Kw E' ld' ln' en' kn x := by
  intro h0
  obtain ⟨k1, w, c, k2, g, k3, k4⟩ := hk x h0
  have hg := g.ship h hr
  obtain ⟨p1, p2, p3, p4, p5⟩ := h.pre hr.1
  by_cases hx : x = m
  · subst hx
    have hn := g.2.2.1 n h.1.2.2.1 h.1.1 (Int.le_trans k3 h.1.2.2.2.1)
    have hc := p5 (kn x) k1 (by have := hn.1; omega) (fun j hj => by rw [k4 j hj, hn.2 j (by omega)])
    refine ⟨by omega, w, c, k2, hg, ?_, fun j hj => ?_⟩
    · rw [h.1.2.2.2.2.1]; exact Int.le_trans k3 h.1.2.2.2.1
    · rw [p4 j (by omega)]; exact hn.2 j (by omega)
  · refine ⟨by rw [h.2.2.1 x hx]; exact k1, w, c, k2, hg, ?_, fun j hj => ?_⟩
    · rw [h.1.2.2.2.2.2.1 x hx]; exact k3
    · rw [h.2.2.2 x j hx]; exact k4 j hj
theorem Kw.raise {kn : Nat → Nat} (hE : ∀ n, E n ≤ E' n) (hl : ∀ n, ld' n → ld n ∧ E' n = E n) {x : Nat} (hk : Kw E ld ln en kn x) : Kw E' ld' ln en kn x := by
  intro h0
  obtain ⟨k1, w, c, k2, g, k3, k4⟩ := hk h0
  exact ⟨k1, w, c, k2, g.raise hl, Int.le_trans k3 (hE x), k4⟩
theorem Kw.elect {kn : Nat → Nat} {S : Nat → Prop} {n b : Nat} {e : Int} (hl : El E E' ld ld' ln en S n b e) (hr : Rf E ld ln en) {x : Nat} (hk : Kw E ld ln en kn x) : Kw E' ld' ln en kn x := by
  intro h0
  obtain ⟨k1, w, c, k2, g, k3, k4⟩ := hk h0
  refine ⟨k1, w, c, k2, g.elect hl hr, Int.le_trans k3 ?_, k4⟩
  by_cases hx : S x
  · have := hl.2.2.2.2.1 x hx; omega
  · rw [hl.2.2.2.2.2.1 x hx]; exact Int.le_refl _
theorem Kw.put {kn : Nat → Nat} {n : Nat} (h : Pu E ld ln ln' en en' n) {x : Nat} (hk : Kw E ld ln en kn x) : Kw E ld ln' en' kn x := by
  intro h0
  obtain ⟨k1, w, c, k2, g, k3, k4⟩ := hk h0
  refine ⟨?_, w, c, k2, g.put h, k3, fun j hj => ?_⟩
  · have := (h.old (m := x) (i := kn x - 1) (by omega)).1; omega
  · rw [(h.old (m := x) (i := j) (by omega)).2]; exact k4 j hj
/-- a leader learns what a second log has -/
theorem Kw.learn {kn kn' : Nat → Nat} {n m i : Nat} (hr : Rf E ld ln en) (hl : ld n) (hq : n / 3 = m / 3) (hnm : n ≠ m) (hi : i < ln m) (he : (en m i).1 = E n) (hkn : kn' n = i + 1) : Kw E ld ln en kn' n := by
  intro h0
  have g := hr.2.2.2.2.2.2 n m i hq hnm hl hi he
  have h4 := hr.2.2.2.1 n m i hq hl hi he
  exact ⟨by omega, en n, i + 1, by omega, g, by show (en n i).1 ≤ E n; rw [h4.2]; exact Int.le_refl _, fun j _ => rfl⟩
/-- m learns what n knows, as far as its log goes with n's -/
theorem Kw.follow {kn kn' : Nat → Nat} {n m : Nat} (hk : Kw E ld ln en kn n) (hq : n / 3 = m / 3) (hE : E n ≤ E m) (hz : kn' m ≤ kn n) (hz2 : kn' m ≤ ln m) (hp : ∀ j, j < ln m → j < ln n → en m j = en n j) (hp2 : ln m ≤ ln n) : Kw E ld ln en kn' m := by
  intro h0
  obtain ⟨k1, w, c, k2, g, k3, k4⟩ := hk (by omega)
  exact ⟨hz2, w, c, by omega, by rw [← hq]; exact g, Int.le_trans k3 hE, fun j hj => by rw [hp j (by omega) (by omega)]; exact k4 j (by omega)⟩
theorem Kw.cong {kn kn' : Nat → Nat} {x : Nat} (h : kn' x = kn x) (hk : Kw E ld ln en kn x) : Kw E ld ln en kn' x := by
  unfold Kw at hk ⊢
  rw [h]; exact hk
end
