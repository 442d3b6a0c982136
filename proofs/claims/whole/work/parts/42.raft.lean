section
variable {E E' : Nat → Int} {ld ld' : Nat → Prop} {ln ln' : Nat → Nat} {en en' : Nat → Nat → En} {T T' : Int} {le le' pr pr' pt pt' : Nat → Int}
/-- leases: le n the end of n's, pr m how long m's promise holds, pt m to whom -/
def Ls (T : Int) (E : Nat → Int) (ld : Nat → Prop) (ln : Nat → Nat) (en : Nat → Nat → En) (le pr pt : Nat → Int) : Prop :=
  (∀ n : Nat, ld n → T < le n → ∃ a b : Nat, a ≠ b ∧ a / 3 = n / 3 ∧ b / 3 = n / 3 ∧ (pt a = n ∧ le n ≤ pr a ∧ E n ≤ E a) ∧ (pt b = n ∧ le n ≤ pr b ∧ E n ≤ E b)) ∧
  (∀ n m : Nat, n / 3 = m / 3 → ld n → T < le n → ld m → E m ≤ E n) ∧
  (∀ n m i : Nat, n / 3 = m / 3 → ld n → T < le n → i < ln m → (en m i).1 ≤ E n)
theorem Ls.one (h : Ls T E ld ln en le pr pt) {n m : Nat} (hq : n / 3 = m / 3) (hn : ld n) (hn2 : T < le n) (hm : ld m) (hm2 : T < le m) : n = m := by
  obtain ⟨a, b, hab, ha, hb, ⟨a1, -, -⟩, ⟨b1, -, -⟩⟩ := h.1 n hn hn2
  obtain ⟨c, d, hcd, hc, hd, ⟨c1, -, -⟩, ⟨d1, -, -⟩⟩ := h.1 m hm hm2
  rcases three hab hcd ha hb (hc.trans hq.symm) (hd.trans hq.symm) with e | e | e | e <;> subst e <;> omega
theorem Ls.mono (h : Ls T E ld ln en le pr pt) (hT : T ≤ T') (hl : ∀ n, ld' n → ld n) : Ls T' E ld' ln en le pr pt :=
  ⟨fun n hn h2 => h.1 n (hl n hn) (by omega), fun n m hq hn h2 hm => h.2.1 n m hq (hl n hn) (by omega) (hl m hm), fun n m i hq hn h2 hi => h.2.2 n m i hq (hl n hn) (by omega) hi⟩
theorem Ls.put {n : Nat} (h : Ls T E ld ln en le pr pt) (hp : Pu E ld ln ln' en en' n) : Ls T E ld ln' en' le pr pt := by
  refine ⟨h.1, h.2.1, fun x m i hq hx h2 hi => ?_⟩
  rcases hp.new hi with ⟨a1, a2⟩ | ⟨rfl, rfl, a2⟩
  · rw [a2]; exact h.2.2 x m i hq hx h2 a1
  · rw [a2]; exact h.2.1 x m hq hx h2 hp.1
theorem Ls.ship {n m k : Nat} (h : Ls T E ld ln en le pr pt) (hs : Sh E E' ld ld' ln ln' en en' n m k) (h1 : R1 ln en) : Ls T E' ld' ln' en' le pr pt := by
  have hs' := hs
  obtain ⟨⟨hl, hnm, hq, hE, hEm, hEx, hldm, hld⟩, hk, hlx, hex⟩ := hs
  have hE2 : ∀ x, E x ≤ E' x := by
    intro x
    by_cases hx : x = m
    · subst hx; rw [hEm]; exact hE
    · rw [hEx x hx]; exact Int.le_refl _
  have ne : ∀ x, ld' x → E' x = E x := fun x hx => hEx x (fun e => hldm (e ▸ hx))
  refine ⟨fun x hx h2 => ?_, fun x y hxy hx h2 hy => ?_, fun x y i hxy hx h2 hi => ?_⟩
  · obtain ⟨a, b, hab, ha, hb, ⟨a1, a2, a3⟩, ⟨b1, b2, b3⟩⟩ := h.1 x (hld x hx) h2
    rw [ne x hx]
    exact ⟨a, b, hab, ha, hb, ⟨a1, a2, Int.le_trans a3 (hE2 a)⟩, ⟨b1, b2, Int.le_trans b3 (hE2 b)⟩⟩
  · rw [ne x hx, ne y hy]; exact h.2.1 x y hxy (hld x hx) h2 (hld y hy)
  · obtain ⟨z, z1, z2, z3, -⟩ := hs'.is h1 y
    rw [z3 i hi, ne x hx]
    exact h.2.2 x z i (by omega) (hld x hx) h2 (by omega)
/-- nodes of S granted an epoch to c: their promises go to c -/
def Gr (T : Int) (E E' : Nat → Int) (pr pr' pt pt' : Nat → Int) (S : Nat → Prop) (c : Nat) : Prop :=
  (∀ m, S m → pt' m = c ∧ pr m ≤ pr' m ∧ E m ≤ E' m ∧ (pt m = -1 ∨ pt m = c ∨ pr m < T)) ∧ (∀ m, ¬ S m → pt' m = pt m ∧ pr' m = pr m ∧ E' m = E m)
theorem Gr.keep {S : Nat → Prop} {c n a : Nat} (h : Gr T E E' pr pr' pt pt' S c) (h2 : T < le n) (ha : pt a = n ∧ le n ≤ pr a ∧ E n ≤ E a) (hn : E' n = E n) : (pt' a = n ∧ le n ≤ pr' a ∧ E' n ≤ E' a) ∧ (S a → n = c) := by
  obtain ⟨a1, a2, a3⟩ := ha
  by_cases hs : S a
  · obtain ⟨g1, g2, g3, g4⟩ := h.1 a hs
    have : n = c := by
      rcases g4 with g | g | g <;> omega
    subst this
    exact ⟨⟨g1, Int.le_trans a2 g2, by rw [hn]; exact Int.le_trans a3 g3⟩, fun _ => rfl⟩
  · obtain ⟨g1, g2, g3⟩ := h.2 a hs
    exact ⟨⟨by rw [g1]; exact a1, by rw [g2]; exact a2, by rw [hn, g3]; exact a3⟩, fun e => absurd e hs⟩
theorem Ls.raise {S : Nat → Prop} {c : Nat} (h : Ls T E ld ln en le pr pt) (hg : Gr T E E' pr pr' pt pt' S c) (hl : ∀ n, ld' n → ld n ∧ E' n = E n) : Ls T E' ld' ln en le pr' pt' := by
  refine ⟨fun x hx h2 => ?_, fun x y hxy hx h2 hy => ?_, fun x y i hxy hx h2 hi => ?_⟩
  · obtain ⟨a, b, hab, ha, hb, a1, b1⟩ := h.1 x (hl x hx).1 h2
    exact ⟨a, b, hab, ha, hb, (hg.keep h2 a1 (hl x hx).2).1, (hg.keep h2 b1 (hl x hx).2).1⟩
  · rw [(hl x hx).2, (hl y hy).2]; exact h.2.1 x y hxy (hl x hx).1 h2 (hl y hy).1
  · rw [(hl x hx).2]; exact h.2.2 x y i hxy (hl x hx).1 h2 hi
theorem Ls.elect {S : Nat → Prop} {n b : Nat} {e : Int} (h : Ls T E ld ln en le pr pt) (hr : Rf E ld ln en) (hg : Gr T E E' pr pr' pt pt' S n) (hl : El E E' ld ld' ln en S n b e) (hle : ∀ m, m ≠ n → le' m = le m) (hle2 : ∀ m, S m → le' n ≤ pr' m) : Ls T E' ld' ln en le' pr' pt' := by
  obtain ⟨h1, h2, h3, h4, h5, h6, h8⟩ := hr
  obtain ⟨sn, sb, hbn, hm, hS, hnS, hld⟩ := hl
  have hq := (hS b sb).1
  have only : ∀ x, x / 3 = n / 3 → ld' x → T < le' x → x = n := by
    intro x hxq hx hx2
    refine Classical.byContradiction fun hxn => ?_
    obtain ⟨hx1, hxs⟩ := (hld x hx).resolve_left hxn
    rw [hle x hxn] at hx2
    obtain ⟨a, c, hac, ha, hc, a1, c1⟩ := h.1 x hx1 hx2
    have ka := (hg.keep hx2 a1 (hnS x hxs)).2
    have kc := (hg.keep hx2 c1 (hnS x hxs)).2
    rcases three hac hbn (ha.trans hxq) (hc.trans hxq) hq rfl with e | e | e | e
    · subst e; exact hxn (ka sb)
    · subst e; exact hxn (ka sn)
    · subst e; exact hxn (kc sb)
    · subst e; exact hxn (kc sn)
  have other : ∀ x, x / 3 ≠ n / 3 → ld' x → ld x ∧ E' x = E x ∧ le' x = le x := by
    intro x hxq hx
    have hxn : x ≠ n := fun e => hxq (by rw [e])
    obtain ⟨hx1, hxs⟩ := (hld x hx).resolve_left hxn
    exact ⟨hx1, hnS x hxs, hle x hxn⟩
  refine ⟨fun x hx hx2 => ?_, fun x y hxy hx hx2 hy => ?_, fun x y i hxy hx hx2 hi => ?_⟩
  · by_cases hxq : x / 3 = n / 3
    · have := only x hxq hx hx2
      subst this
      exact ⟨x, b, fun e => hbn e.symm, rfl, hq, ⟨(hg.1 x sn).1, hle2 x sn, Int.le_refl _⟩, ⟨(hg.1 b sb).1, hle2 b sb, by rw [(hS x sn).2.2.1, (hS b sb).2.2.1]; exact Int.le_refl _⟩⟩
    · obtain ⟨o1, o2, o3⟩ := other x hxq hx
      rw [o3] at hx2 ⊢
      obtain ⟨a, c, hac, ha, hc, a1, c1⟩ := h.1 x o1 hx2
      exact ⟨a, c, hac, ha, hc, (hg.keep hx2 a1 o2).1, (hg.keep hx2 c1 o2).1⟩
  · by_cases hxq : x / 3 = n / 3
    · have := only x hxq hx hx2
      subst this
      rw [(hS x sn).2.2.1]
      rcases hld y hy with e | ⟨hy1, hys⟩
      · subst e; rw [(hS y sn).2.2.1]; exact Int.le_refl _
      · rw [hnS y hys]
        obtain ⟨d, hd, hdq, hde⟩ := h6.2 y hy1
        have e1 := (hS x sn).2.1
        have e2 := (hS b sb).2.1
        rcases three hd hbn (hdq.trans hxy.symm) hxy.symm hq rfl with e | e | e | e
        · subst e; omega
        · subst e; omega
        · subst e; exact absurd sb hys
        · subst e; exact absurd sn hys
    · obtain ⟨o1, o2, o3⟩ := other x hxq hx
      obtain ⟨y1, y2, -⟩ := other y (by omega) hy
      rw [o3] at hx2
      rw [o2, y2]
      exact h.2.1 x y hxy o1 hx2 y1
  · by_cases hxq : x / 3 = n / 3
    · have := only x hxq hx hx2
      subst this
      rw [(hS x sn).2.2.1]
      obtain ⟨a, c, hac, ha, hc, ea, ec⟩ := h6.1 y i hi
      have e1 := (hS x sn).2.1
      have e2 := (hS b sb).2.1
      rcases three hac hbn (ha.trans hxy.symm) (hc.trans hxy.symm) hq rfl with e | e | e | e <;> subst e <;> omega
    · obtain ⟨o1, o2, o3⟩ := other x hxq hx
      rw [o3] at hx2
      rw [o2]
      exact h.2.2 x y i hxy o1 hx2 hi
/-- the leader n renews the promises of U; with two of them its lease may grow -/
theorem Ls.beat {U : Nat → Prop} {n : Nat} (h : Ls T E ld ln en le pr pt) (hr : Rf E ld ln en) (hn : ld n) (hU : ∀ m, U m → m / 3 = n / 3 ∧ E m = E n ∧ pt' m = n ∧ pr m ≤ pr' m) (hnU : ∀ m, ¬ U m → pt' m = pt m ∧ pr' m = pr m) (hle : ∀ m, m ≠ n → le' m = le m)
    (hle2 : le' n = le n ∨ (le n ≤ le' n ∧ (∃ a b, a ≠ b ∧ U a ∧ U b) ∧ ∀ m, U m → le' n ≤ pr' m)) : Ls T E ld ln en le' pr' pt' := by
  obtain ⟨h1, h2, h3, h4, h5, h6, h8⟩ := hr
  have keep : ∀ x a, x ≠ n → ld x → T < le x → x / 3 = n / 3 → (pt a = x ∧ le x ≤ pr a ∧ E x ≤ E a) → pt' a = x ∧ le x ≤ pr' a ∧ E x ≤ E a := by
    intro x a hxn hx hx2 hxq ⟨a1, a2, a3⟩
    by_cases ha : U a
    · exfalso
      obtain ⟨u1, u2, -, -⟩ := hU a ha
      have := h.2.1 x n hxq hx hx2 hn
      exact hxn (same_lead h5 hxq hx hn (by omega))
    · obtain ⟨u1, u2⟩ := hnU a ha
      exact ⟨by rw [u1]; exact a1, by rw [u2]; exact a2, a3⟩
  have grow : ∀ a, pt a = n → pt' a = n ∧ pr a ≤ pr' a := by
    intro a ha
    by_cases hu : U a
    · exact ⟨(hU a hu).2.2.1, (hU a hu).2.2.2⟩
    · obtain ⟨u1, u2⟩ := hnU a hu
      exact ⟨by rw [u1]; exact ha, by rw [u2]; exact Int.le_refl _⟩
  have far : ∀ x a, x / 3 ≠ n / 3 → a / 3 = x / 3 → pt' a = pt a ∧ pr' a = pr a := fun x a hxq haq => hnU a (fun hu => hxq (by rw [← haq]; exact (hU a hu).1))
  refine ⟨fun x hx hx2 => ?_, fun x y hxy hx hx2 hy => ?_, fun x y i hxy hx hx2 hi => ?_⟩
  · by_cases hxn : x = n
    · subst hxn
      by_cases hold : T < le x ∧ le' x = le x
      · obtain ⟨a, b, hab, ha, hb, ⟨a1, a2, a3⟩, ⟨b1, b2, b3⟩⟩ := h.1 x hx hold.1
        have ga := grow a a1
        have gb := grow b b1
        exact ⟨a, b, hab, ha, hb, ⟨ga.1, by omega, a3⟩, ⟨gb.1, by omega, b3⟩⟩
      · rcases hle2 with e | ⟨e1, ⟨a, b, hab, ua, ub⟩, e2⟩
        · omega
        · have a1 := hU a ua
          have b1 := hU b ub
          exact ⟨a, b, hab, a1.1, b1.1, ⟨a1.2.2.1, e2 a ua, by omega⟩, ⟨b1.2.2.1, e2 b ub, by omega⟩⟩
    · rw [hle x hxn] at hx2 ⊢
      obtain ⟨a, b, hab, ha, hb, a1, b1⟩ := h.1 x hx hx2
      by_cases hxq : x / 3 = n / 3
      · exact ⟨a, b, hab, ha, hb, keep x a hxn hx hx2 hxq a1, keep x b hxn hx hx2 hxq b1⟩
      · obtain ⟨fa, fa2⟩ := far x a hxq ha
        obtain ⟨fb, fb2⟩ := far x b hxq hb
        exact ⟨a, b, hab, ha, hb, ⟨by rw [fa]; exact a1.1, by rw [fa2]; exact a1.2.1, a1.2.2⟩, ⟨by rw [fb]; exact b1.1, by rw [fb2]; exact b1.2.1, b1.2.2⟩⟩
  · by_cases hxn : x = n
    · subst hxn
      by_cases hold : T < le x
      · exact h.2.1 x y hxy hx hold hy
      · rcases hle2 with e | ⟨e1, ⟨a, b, hab, ua, ub⟩, e2⟩
        · omega
        · have a1 := hU a ua
          have b1 := hU b ub
          obtain ⟨d, hd, hdq, hde⟩ := h6.2 y hy
          rcases three hd hab (hdq.trans hxy.symm) hxy.symm a1.1 b1.1 with e | e | e | e <;> subst e <;> omega
    · rw [hle x hxn] at hx2; exact h.2.1 x y hxy hx hx2 hy
  · by_cases hxn : x = n
    · subst hxn
      by_cases hold : T < le x
      · exact h.2.2 x y i hxy hx hold hi
      · rcases hle2 with e | ⟨e1, ⟨a, b, hab, ua, ub⟩, e2⟩
        · omega
        · have a1 := hU a ua
          have b1 := hU b ub
          obtain ⟨c, d, hcd, hc, hd, ec, ed⟩ := h6.1 y i hi
          rcases three hcd hab (hc.trans hxy.symm) (hd.trans hxy.symm) a1.1 b1.1 with e | e | e | e <;> subst e <;> omega
    · rw [hle x hxn] at hx2; exact h.2.2 x y i hxy hx hx2 hi
end
