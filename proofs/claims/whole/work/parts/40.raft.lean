/-! The logs of a group: what a known entry is, and why it is never cut. Nodes 3q, 3q+1, 3q+2 are a group. -/
section
/-- an entry: epoch, stamp, kind, owner, outcome -/
abbrev En : Type := Int × Int × Int × Int × Int
def Hs (ln : Nat → Nat) (en : Nat → Nat → En) (n : Nat) (w : Nat → En) (k : Nat) : Prop := k ≤ ln n ∧ ∀ j, j < k → en n j = w j
/-- w's first k entries are known for good -/
def Gd (E : Nat → Int) (ld : Nat → Prop) (ln : Nat → Nat) (en : Nat → Nat → En) (q : Nat) (w : Nat → En) (k : Nat) : Prop :=
  0 < k ∧ (∃ a b : Nat, a ≠ b ∧ a / 3 = q ∧ b / 3 = q ∧ Hs ln en a w k ∧ Hs ln en b w k) ∧ (∀ n : Nat, n / 3 = q → ld n → (w (k - 1)).1 ≤ E n → Hs ln en n w k) ∧ (∀ n i : Nat, n / 3 = q → i < ln n → (w (k - 1)).1 < (en n i).1 → Hs ln en n w k)
def R1 (ln : Nat → Nat) (en : Nat → Nat → En) : Prop := ∀ n m i : Nat, n / 3 = m / 3 → i < ln n → i < ln m → (en n i).1 = (en m i).1 → ∀ j, j ≤ i → en n j = en m j
def R2 (ln : Nat → Nat) (en : Nat → Nat → En) : Prop := ∀ n m i j : Nat, n / 3 = m / 3 → i ≤ j → i < ln n → j < ln m → (en n i).1 = (en m j).1 → (en m i).1 = (en n i).1
def R3 (E : Nat → Int) (ln : Nat → Nat) (en : Nat → Nat → En) : Prop := (∀ n i j : Nat, i ≤ j → j < ln n → (en n i).1 ≤ (en n j).1) ∧ (∀ n i : Nat, i < ln n → (en n i).1 ≤ E n)
def R4 (E : Nat → Int) (ld : Nat → Prop) (ln : Nat → Nat) (en : Nat → Nat → En) : Prop := ∀ n m i : Nat, n / 3 = m / 3 → ld n → i < ln m → (en m i).1 = E n → i < ln n ∧ (en n i).1 = E n
def R5 (E : Nat → Int) (ld : Nat → Prop) (ln : Nat → Nat) (en : Nat → Nat → En) : Prop := (∀ n : Nat, ld n → E n % 3 = ((n % 3 : Nat) : Int)) ∧ (∀ n m i : Nat, n / 3 = m / 3 → i < ln m → (en m i).1 % 3 = ((n % 3 : Nat) : Int) → (en m i).1 ≤ E n)
def R6 (E : Nat → Int) (ld : Nat → Prop) (ln : Nat → Nat) (en : Nat → Nat → En) : Prop := (∀ m i : Nat, i < ln m → ∃ a b : Nat, a ≠ b ∧ a / 3 = m / 3 ∧ b / 3 = m / 3 ∧ (en m i).1 ≤ E a ∧ (en m i).1 ≤ E b) ∧ (∀ n : Nat, ld n → ∃ b : Nat, b ≠ n ∧ b / 3 = n / 3 ∧ E n ≤ E b)
def R8 (E : Nat → Int) (ld : Nat → Prop) (ln : Nat → Nat) (en : Nat → Nat → En) : Prop := ∀ n m i : Nat, n / 3 = m / 3 → n ≠ m → ld n → i < ln m → (en m i).1 = E n → Gd E ld ln en (n / 3) (en n) (i + 1)
def Rf (E : Nat → Int) (ld : Nat → Prop) (ln : Nat → Nat) (en : Nat → Nat → En) : Prop := R1 ln en ∧ R2 ln en ∧ R3 E ln en ∧ R4 E ld ln en ∧ R5 E ld ln en ∧ R6 E ld ln en ∧ R8 E ld ln en
/-- what is known at a node -/
def Kw (E : Nat → Int) (ld : Nat → Prop) (ln : Nat → Nat) (en : Nat → Nat → En) (kn : Nat → Nat) (n : Nat) : Prop := 0 < kn n → kn n ≤ ln n ∧ ∃ (w : Nat → En) (k : Nat), kn n ≤ k ∧ Gd E ld ln en (n / 3) w k ∧ (w (k - 1)).1 ≤ E n ∧ ∀ j, j < kn n → en n j = w j
theorem three {a b c d q : Nat} (h : a ≠ b) (h2 : c ≠ d) (ha : a / 3 = q) (hb : b / 3 = q) (hc : c / 3 = q) (hd : d / 3 = q) : a = c ∨ a = d ∨ b = c ∨ b = d := by omega
theorem Gd.cong {E : Nat → Int} {ld : Nat → Prop} {ln : Nat → Nat} {en : Nat → Nat → En} {q : Nat} {w w' : Nat → En} {k : Nat} (h : Gd E ld ln en q w k) (hw : ∀ j, j < k → w' j = w j) : Gd E ld ln en q w' k := by
  obtain ⟨h0, ⟨a, b, hab, ha, hb, h1, h2⟩, h3, h4⟩ := h
  have hl : w' (k - 1) = w (k - 1) := hw _ (by omega)
  have hh : ∀ n, Hs ln en n w k → Hs ln en n w' k := fun n hn => ⟨hn.1, fun j hj => by rw [hw j hj]; exact hn.2 j hj⟩
  refine ⟨h0, ⟨a, b, hab, ha, hb, hh a h1, hh b h2⟩, fun n hq hl' he => hh n (h3 n hq hl' (by rw [← hl]; exact he)), fun n i hq hi he => hh n (h4 n i hq hi (by rw [← hl]; exact he))⟩
section
variable {E E' : Nat → Int} {ld ld' : Nat → Prop} {ln ln' : Nat → Nat} {en en' : Nat → Nat → En}
theorem same_lead (h5 : R5 E ld ln en) {n m : Nat} (hq : n / 3 = m / 3) (hn : ld n) (hm : ld m) (he : E n = E m) : n = m := by
  have h1 := h5.1 n hn
  have h2 := h5.1 m hm
  rw [he, h2] at h1
  omega
/-- epochs grow, leaders only fall: a crash, an election that fails -/
theorem Gd.raise {q : Nat} {w : Nat → En} {k : Nat} (hl : ∀ n, ld' n → ld n ∧ E' n = E n) (h : Gd E ld ln en q w k) : Gd E' ld' ln en q w k := by
  obtain ⟨h0, h1, h2, h3⟩ := h
  exact ⟨h0, h1, fun n hq hn he => h2 n hq (hl n hn).1 (by rw [← (hl n hn).2]; exact he), h3⟩
theorem Rf.raise (hE : ∀ n, E n ≤ E' n) (hl : ∀ n, ld' n → ld n ∧ E' n = E n) (h : Rf E ld ln en) : Rf E' ld' ln en := by
  obtain ⟨h1, h2, h3, h4, h5, h6, h8⟩ := h
  refine ⟨h1, h2, ⟨h3.1, fun n i hi => Int.le_trans (h3.2 n i hi) (hE n)⟩, ?_, ⟨?_, ?_⟩, ⟨?_, ?_⟩, ?_⟩
  · intro n m i hq hn hi he
    rw [(hl n hn).2] at he ⊢
    exact h4 n m i hq (hl n hn).1 hi he
  · intro n hn
    rw [(hl n hn).2]
    exact h5.1 n (hl n hn).1
  · intro n m i hq hi he
    exact Int.le_trans (h5.2 n m i hq hi he) (hE n)
  · intro m i hi
    obtain ⟨a, b, hab, ha, hb, e1, e2⟩ := h6.1 m i hi
    exact ⟨a, b, hab, ha, hb, Int.le_trans e1 (hE a), Int.le_trans e2 (hE b)⟩
  · intro n hn
    obtain ⟨b, hb, hq, he⟩ := h6.2 n (hl n hn).1
    exact ⟨b, hb, hq, by rw [(hl n hn).2]; exact Int.le_trans he (hE b)⟩
  · intro n m i hq hnm hn hi he
    rw [(hl n hn).2] at he
    exact (h8 n m i hq hnm (hl n hn).1 hi he).raise hl
/-- n is elected for the epoch e by the nodes of S: itself and b among them -/
def El (E E' : Nat → Int) (ld ld' : Nat → Prop) (ln : Nat → Nat) (en : Nat → Nat → En) (S : Nat → Prop) (n b : Nat) (e : Int) : Prop :=
  S n ∧ S b ∧ b ≠ n ∧ e % 3 = ((n % 3 : Nat) : Int) ∧ (∀ m, S m → m / 3 = n / 3 ∧ E m < e ∧ E' m = e ∧ (ln m = 0 ∨ (0 < ln n ∧ ((en m (ln m - 1)).1 < (en n (ln n - 1)).1 ∨ ((en m (ln m - 1)).1 = (en n (ln n - 1)).1 ∧ ln m ≤ ln n))))) ∧ (∀ m, ¬ S m → E' m = E m) ∧ (∀ m, ld' m → m = n ∨ (ld m ∧ ¬ S m))
theorem El.has {S : Nat → Prop} {n b : Nat} {e : Int} (hl : El E E' ld ld' ln en S n b e) (hr : Rf E ld ln en) {w : Nat → En} {k : Nat} (h : Gd E ld ln en (n / 3) w k) : Hs ln en n w k := by
  obtain ⟨h1, h2, h3, h4, h5, h6, h8⟩ := hr
  obtain ⟨sn, sb, hbn, hm, hS, hnS, hld⟩ := hl
  obtain ⟨h0, ⟨a, c, hac, ha, hc, ha1, hc1⟩, g2, g3⟩ := h
  have key : ∀ x, S x → Hs ln en x w k → Hs ln en n w k := by
    intro x sx hx
    obtain ⟨hq, he, -, hb⟩ := hS x sx
    have hk : k ≤ ln x := hx.1
    rcases hb with hb | ⟨h0n, hb | ⟨hb, hlen⟩⟩
    · omega
    · have hlast : (w (k - 1)).1 ≤ (en x (ln x - 1)).1 := by
        rw [← hx.2 (k - 1) (by omega)]
        exact h3.1 x _ _ (by omega) (by omega)
      exact g3 n (ln n - 1) rfl (by omega) (by omega)
    · have e2 := h2 x n (ln x - 1) (ln n - 1) hq (by omega) (by omega) (by omega) hb
      have e1 := h1 x n (ln x - 1) hq (by omega) (by omega) e2.symm
      exact ⟨by omega, fun j hj => by rw [← e1 j (by omega)]; exact hx.2 j hj⟩
  have hbq := (hS b sb).1
  rcases three hac hbn ha hc hbq rfl with h | h | h | h
  · subst h; exact key _ sb ha1
  · subst h; exact ha1
  · subst h; exact key _ sb hc1
  · subst h; exact hc1
theorem Gd.elect {S : Nat → Prop} {n b : Nat} {e : Int} (hl : El E E' ld ld' ln en S n b e) (hr : Rf E ld ln en) {q : Nat} {w : Nat → En} {k : Nat} (h : Gd E ld ln en q w k) : Gd E' ld' ln en q w k := by
  have h' := h
  obtain ⟨h0, h1, h2, h3⟩ := h
  refine ⟨h0, h1, fun x hq hx he => ?_, h3⟩
  rcases hl.2.2.2.2.2.2 x hx with rfl | ⟨hx1, hx2⟩
  · subst hq; exact hl.has hr h'
  · rw [hl.2.2.2.2.2.1 x hx2] at he
    exact h2 x hq hx1 he
theorem Rf.elect {S : Nat → Prop} {n b : Nat} {e : Int} (hl : El E E' ld ld' ln en S n b e) (hr : Rf E ld ln en) : Rf E' ld' ln en := by
  have hr' := hr
  have hl' := hl
  obtain ⟨h1, h2, h3, h4, h5, h6, h8⟩ := hr
  obtain ⟨sn, sb, hbn, hm, hS, hnS, hld⟩ := hl
  have hE : ∀ x, E x ≤ E' x := by
    intro x
    by_cases hx : S x
    · have := hS x hx; omega
    · rw [hnS x hx]; exact Int.le_refl _
  have fresh : ∀ m i, n / 3 = m / 3 → i < ln m → (en m i).1 < e := by
    intro m i hq hi
    by_cases h : (en m i).1 % 3 = ((n % 3 : Nat) : Int)
    · have := h5.2 n m i hq hi h
      have := (hS n sn).2.1
      omega
    · obtain ⟨a, c, hac, ha, hc, ea, ec⟩ := h6.1 m i hi
      have hbq := (hS b sb).1
      have e1 := (hS n sn).2.1
      have e2 := (hS b sb).2.1
      rcases three hac hbn (ha.trans hq.symm) (hc.trans hq.symm) hbq rfl with h | h | h | h <;> subst h <;> omega
  refine ⟨h1, h2, ⟨h3.1, fun n i hi => Int.le_trans (h3.2 n i hi) (hE n)⟩, ?_, ⟨?_, ?_⟩, ⟨?_, ?_⟩, ?_⟩
  · intro x m i hq hx hi he
    rcases hld x hx with rfl | ⟨hx1, hx2⟩
    · rw [(hS x sn).2.2.1] at he
      have := fresh m i hq hi
      omega
    · rw [hnS x hx2] at he ⊢
      exact h4 x m i hq hx1 hi he
  · intro x hx
    rcases hld x hx with rfl | ⟨hx1, hx2⟩
    · rw [(hS x sn).2.2.1]; exact hm
    · rw [hnS x hx2]; exact h5.1 x hx1
  · intro n m i hq hi he
    exact Int.le_trans (h5.2 n m i hq hi he) (hE n)
  · intro m i hi
    obtain ⟨a, c, hac, ha, hc, e1, e2⟩ := h6.1 m i hi
    exact ⟨a, c, hac, ha, hc, Int.le_trans e1 (hE a), Int.le_trans e2 (hE c)⟩
  · intro x hx
    rcases hld x hx with rfl | ⟨hx1, hx2⟩
    · exact ⟨b, hbn, (hS b sb).1, by rw [(hS x sn).2.2.1, (hS b sb).2.2.1]; exact Int.le_refl _⟩
    · obtain ⟨c, hc, hq, he⟩ := h6.2 x hx1
      exact ⟨c, hc, hq, by rw [hnS x hx2]; exact Int.le_trans he (hE c)⟩
  · intro x m i hq hxm hx hi he
    rcases hld x hx with rfl | ⟨hx1, hx2⟩
    · rw [(hS x sn).2.2.1] at he
      have := fresh m i hq hi
      omega
    · rw [hnS x hx2] at he
      exact (h8 x m i hq hxm hx1 hi he).elect hl' hr'
/-- a leader writes an entry -/
def Pu (E : Nat → Int) (ld : Nat → Prop) (ln ln' : Nat → Nat) (en en' : Nat → Nat → En) (n : Nat) : Prop :=
  ld n ∧ ln' n = ln n + 1 ∧ (∀ m, m ≠ n → ln' m = ln m) ∧ (∀ m j, m ≠ n ∨ j ≠ ln n → en' m j = en m j) ∧ (en' n (ln n)).1 = E n
theorem Pu.old {n : Nat} (h : Pu E ld ln ln' en en' n) {m i : Nat} (hi : i < ln m) : i < ln' m ∧ en' m i = en m i := by
  obtain ⟨-, h1, h2, h3, -⟩ := h
  by_cases hm : m = n
  · subst hm; exact ⟨by omega, h3 m i (Or.inr (by omega))⟩
  · exact ⟨by rw [h2 m hm]; exact hi, h3 m i (Or.inl hm)⟩
theorem Pu.new {n : Nat} (h : Pu E ld ln ln' en en' n) {m i : Nat} (hi : i < ln' m) : (i < ln m ∧ en' m i = en m i) ∨ (m = n ∧ i = ln n ∧ (en' m i).1 = E n) := by
  obtain ⟨-, h1, h2, h3, h4⟩ := h
  by_cases hm : m = n
  · subst hm
    by_cases hx : i = ln m
    · subst hx; exact Or.inr ⟨rfl, rfl, h4⟩
    · exact Or.inl ⟨by omega, h3 m i (Or.inr hx)⟩
  · exact Or.inl ⟨by rw [← h2 m hm]; exact hi, h3 m i (Or.inl hm)⟩
theorem Pu.hs {n : Nat} (h : Pu E ld ln ln' en en' n) {m : Nat} {w : Nat → En} {k : Nat} (hh : Hs ln en m w k) : Hs ln' en' m w k := by
  refine ⟨?_, fun j hj => ?_⟩
  · by_cases hk : k = 0
    · omega
    · have := (h.old (m := m) (i := k - 1) (by have := hh.1; omega)).1
      omega
  · rw [(h.old (m := m) (i := j) (by have := hh.1; omega)).2]; exact hh.2 j hj
theorem Gd.put {n : Nat} (h : Pu E ld ln ln' en en' n) {q : Nat} {w : Nat → En} {k : Nat} (g : Gd E ld ln en q w k) : Gd E ld ln' en' q w k := by
  obtain ⟨h0, ⟨a, b, hab, ha, hb, h1, h2⟩, h3, h4⟩ := g
  refine ⟨h0, ⟨a, b, hab, ha, hb, h.hs h1, h.hs h2⟩, fun x hq hx he => h.hs (h3 x hq hx he), fun x i hq hi he => ?_⟩
  rcases h.new hi with ⟨h5, h6⟩ | ⟨rfl, rfl, h5⟩
  · rw [h6] at he; exact h.hs (h4 x i hq h5 he)
  · rw [h5] at he; exact h.hs (h3 x hq h.1 (by omega))
theorem Rf.put {n : Nat} (h : Pu E ld ln ln' en en' n) (hr : Rf E ld ln en) : Rf E ld ln' en' := by
  obtain ⟨h1, h2, h3, h4, h5, h6, h8⟩ := hr
  have hld := h.1
  refine ⟨?_, ?_, ⟨?_, ?_⟩, ?_, ⟨h5.1, ?_⟩, ⟨?_, h6.2⟩, ?_⟩
  · intro x m i hq hi hj he j hji
    rcases h.new hi with ⟨a1, a2⟩ | ⟨rfl, rfl, a2⟩ <;> rcases h.new hj with ⟨b1, b2⟩ | ⟨hm, hi2, b2⟩
    · rw [a2, b2] at he
      rw [(h.old (m := x) (i := j) (by omega)).2, (h.old (m := m) (i := j) (by omega)).2]
      exact h1 x m i hq a1 b1 he j hji
    · subst hm
      rw [a2, b2] at he
      have := (h4 m x i hq.symm hld a1 he).1
      omega
    · rw [a2, b2] at he
      have := (h4 x m _ hq hld b1 he.symm).1
      omega
    · subst hm; rfl
  · intro x m i j hq hij hi hj he
    rcases h.new hi with ⟨a1, a2⟩ | ⟨rfl, rfl, a2⟩ <;> rcases h.new hj with ⟨b1, b2⟩ | ⟨hm, hi2, b2⟩
    · rw [a2, b2] at he
      rw [a2, (h.old (m := m) (i := i) (by omega)).2]
      exact h2 x m i j hq hij a1 b1 he
    · subst hm
      rw [a2, b2] at he
      have := h4 m x i hq.symm hld a1 he
      rw [a2, (h.old (m := m) (i := i) this.1).2, this.2, he]
    · rw [a2, b2] at he
      have := (h4 x m _ hq hld b1 he.symm).1
      omega
    · subst hm
      rfl
  · intro x i j hij hj
    rcases h.new hj with ⟨b1, b2⟩ | ⟨rfl, rfl, b2⟩
    · rw [b2, (h.old (m := x) (i := i) (by omega)).2]; exact h3.1 x i j hij b1
    · by_cases hi : i = ln x
      · subst hi; exact Int.le_refl _
      · rw [b2, (h.old (m := x) (i := i) (by omega)).2]; exact h3.2 x i (by omega)
  · intro x i hi
    rcases h.new hi with ⟨b1, b2⟩ | ⟨rfl, rfl, b2⟩
    · rw [b2]; exact h3.2 x i b1
    · rw [b2]; exact Int.le_refl _
  · intro x m i hq hx hi he
    rcases h.new hi with ⟨b1, b2⟩ | ⟨rfl, rfl, b2⟩
    · rw [b2] at he
      obtain ⟨c1, c2⟩ := h4 x m i hq hx b1 he
      exact ⟨(h.old c1).1, by rw [(h.old c1).2]; exact c2⟩
    · rw [b2] at he
      have := same_lead h5 hq.symm hld hx he
      subst this
      exact ⟨hi, b2⟩
  · intro x m i hq hi he
    rcases h.new hi with ⟨b1, b2⟩ | ⟨rfl, rfl, b2⟩
    · rw [b2] at he ⊢; exact h5.2 x m i hq b1 he
    · rw [b2] at he ⊢
      have := h5.1 m hld
      rw [he] at this
      have : x = m := by omega
      subst this
      exact Int.le_refl _
  · intro m i hi
    rcases h.new hi with ⟨b1, b2⟩ | ⟨rfl, rfl, b2⟩
    · rw [b2]; exact h6.1 m i b1
    · rw [b2]
      obtain ⟨b, hb, hq, he⟩ := h6.2 m hld
      exact ⟨m, b, fun e => hb e.symm, rfl, hq, Int.le_refl _, he⟩
  · intro x m i hq hxm hx hi he
    rcases h.new hi with ⟨b1, b2⟩ | ⟨rfl, rfl, b2⟩
    · rw [b2] at he
      have hl := (h4 x m i hq hx b1 he).1
      exact ((h8 x m i hq hxm hx b1 he).put h).cong (fun j hj => (h.old (m := x) (i := j) (by omega)).2)
    · rw [b2] at he
      exact absurd (same_lead h5 hq hx hld he.symm) hxm
end
end
