section
/-- the addresses by their places: apart, and what refers to what -/
def Sx (R : Nat → Nat → Nat) (A : Nat → Nat) : Prop := (∀ p q, p < 131 → q < 131 → A p = A q → p = q) ∧ ∀ p j, p < 131 → R (A p) j = A (rP p j)
theorem Sx.of {L : List Nat} (hlen : L.length = 131) (hN : L.Nodup) : Sx (RR L) (fun p => L.getD p 0) := ⟨fun p q hp hq h => gD_i hN (by omega) (by omega) h, fun p j hp => by
  show L.getD (rP (L.idxOf (L.getD p 0)) j) 0 = _
  rw [idx_at hN (by omega)]⟩
theorem Sx.all {R : Nat → Nat → Nat} {A : Nat → Nat} (h : Sx R A) : R (A 110) 2 = A 111 ∧ R (A 110) 3 = A 112 ∧ R (A 110) 4 = A 113 ∧ R (A 110) 5 = A 114 ∧ R (A 110) 6 = A 115 ∧ R (A 110) 7 = A 116 ∧ R (A 110) 8 = A 117 ∧ R (A 110) 9 = A 118 ∧ R (A 110) 10 = A 119 ∧ R (A 110) 11 = A 120 ∧ R (A 110) 12 = A 121 ∧ R (A 110) 13 = A 122 ∧ R (A 110) 14 = A 123 ∧ R (A 110) 15 = A 124 ∧ R (A 110) 17 = A 125 ∧ R (A 110) 18 = A 126 ∧ R (A 110) 19 = A 127 ∧ R (A 110) 20 = A 128 ∧ R (A 110) 21 = A 129 ∧ R (A 110) 22 = A 130 ∧ R (A 0) 0 = A 3 ∧ R (A 0) 1 = A 1 ∧ R (A 0) 2 = A 2 ∧ (∀ n, n < 6 → R (A 1) n = A (4 + 7 * n)) ∧ (∀ n, n < 16 → R (A 2) n = A (46 + 4 * n)) ∧ (∀ n, n < 6 → R (A (4 + 7 * n)) 1 = A 3) ∧ (∀ n, n < 6 → R (A (4 + 7 * n)) 2 = A (5 + 7 * n)) ∧ (∀ n, n < 6 → R (A (5 + 7 * n)) 0 = A (6 + 7 * n)) ∧ (∀ n, n < 6 → R (A (5 + 7 * n)) 1 = A (7 + 7 * n)) ∧ (∀ n, n < 6 → R (A (5 + 7 * n)) 2 = A (8 + 7 * n)) ∧ (∀ n, n < 6 → R (A (5 + 7 * n)) 3 = A (9 + 7 * n)) ∧ (∀ n, n < 6 → R (A (5 + 7 * n)) 4 = A (10 + 7 * n)) ∧ (∀ n, n < 16 → R (A (46 + 4 * n)) 0 = A (47 + 4 * n)) ∧ (∀ n, n < 16 → R (A (46 + 4 * n)) 1 = A (48 + 4 * n)) ∧ (∀ n, n < 16 → R (A (46 + 4 * n)) 2 = A (49 + 4 * n)) := by
  have key : ∀ p j q, p < 131 → rP p j = q → R (A p) j = A q := fun p j q hp hq => by rw [h.2 p j hp, hq]
  refine ⟨?_, ?_, ?_, ?_, ?_, ?_, ?_, ?_, ?_, ?_, ?_, ?_, ?_, ?_, ?_, ?_, ?_, ?_, ?_, ?_, ?_, ?_, ?_, ?_, ?_, ?_, ?_, ?_, ?_, ?_, ?_, ?_, ?_, ?_, ?_⟩
  · exact key _ _ _ (by omega) (by decide)
  · exact key _ _ _ (by omega) (by decide)
  · exact key _ _ _ (by omega) (by decide)
  · exact key _ _ _ (by omega) (by decide)
  · exact key _ _ _ (by omega) (by decide)
  · exact key _ _ _ (by omega) (by decide)
  · exact key _ _ _ (by omega) (by decide)
  · exact key _ _ _ (by omega) (by decide)
  · exact key _ _ _ (by omega) (by decide)
  · exact key _ _ _ (by omega) (by decide)
  · exact key _ _ _ (by omega) (by decide)
  · exact key _ _ _ (by omega) (by decide)
  · exact key _ _ _ (by omega) (by decide)
  · exact key _ _ _ (by omega) (by decide)
  · exact key _ _ _ (by omega) (by decide)
  · exact key _ _ _ (by omega) (by decide)
  · exact key _ _ _ (by omega) (by decide)
  · exact key _ _ _ (by omega) (by decide)
  · exact key _ _ _ (by omega) (by decide)
  · exact key _ _ _ (by omega) (by decide)
  · exact key _ _ _ (by omega) (by decide)
  · exact key _ _ _ (by omega) (by decide)
  · exact key _ _ _ (by omega) (by decide)
  · intro n hn
    refine key _ _ _ (by omega) ?_
    unfold rP
    repeat' split
    all_goals omega
  · intro n hn
    refine key _ _ _ (by omega) ?_
    unfold rP
    repeat' split
    all_goals omega
  · intro n hn
    refine key _ _ _ (by omega) ?_
    unfold rP
    repeat' split
    all_goals omega
  · intro n hn
    refine key _ _ _ (by omega) ?_
    unfold rP
    repeat' split
    all_goals omega
  · intro n hn
    refine key _ _ _ (by omega) ?_
    unfold rP
    repeat' split
    all_goals omega
  · intro n hn
    refine key _ _ _ (by omega) ?_
    unfold rP
    repeat' split
    all_goals omega
  · intro n hn
    refine key _ _ _ (by omega) ?_
    unfold rP
    repeat' split
    all_goals omega
  · intro n hn
    refine key _ _ _ (by omega) ?_
    unfold rP
    repeat' split
    all_goals omega
  · intro n hn
    refine key _ _ _ (by omega) ?_
    unfold rP
    repeat' split
    all_goals omega
  · intro n hn
    refine key _ _ _ (by omega) ?_
    unfold rP
    repeat' split
    all_goals omega
  · intro n hn
    refine key _ _ _ (by omega) ?_
    unfold rP
    repeat' split
    all_goals omega
  · intro n hn
    refine key _ _ _ (by omega) ?_
    unfold rP
    repeat' split
    all_goals omega
theorem V_up {R : Nat → Nat → Nat} {A : Nat → Nat} (h : Sx R A) (I : St) {p q : Nat} (j k : Nat) (v : Int32) (hp : p < 131) (hq : q < 131) : up2 I (A p) j v (A q) k = if q = p ∧ k = j then v else I (A q) k := by
  by_cases e : q = p
  · subst e
    rw [up2_self]
    unfold upd
    by_cases hk : k = j
    · rw [if_pos hk, if_pos ⟨rfl, hk⟩]
    · rw [if_neg hk, if_neg (fun e => hk e.2)]
  · rw [up2_ne _ _ _ (fun e2 => e (h.1 q p hq hp e2)), if_neg (fun e2 => e e2.1)]
theorem V_row {R : Nat → Nat → Nat} {A : Nat → Nat} (h : Sx R A) (I : St) {p q : Nat} (j : Nat) (v : Int32) (hp : p < 131) (hq : q < 131) (hne : q ≠ p) : up2 I (A p) j v (A q) = I (A q) := up2_ne _ _ _ (fun e => hne (h.1 q p hq hp e))
theorem V_same {A : Nat → Nat} (I : St) {p : Nat} (j : Nat) (v : Int32) : up2 I (A p) j v (A p) = upd (I (A p)) j v := up2_self _ _ _ _
theorem chk_nI {α : Type} {n N : Nat} {x : Option α} (h : n < N) (hN : N < 2 ^ 31) : chk (nI n) N x = x := by
  unfold chk
  exact if_neg (nI_in h hN)
theorem ob_s {α β : Type} (x : α) (f : α → Option β) : ob (some x) f = f x := rfl
theorem ob2_s {β : Type} (x : Int32) (I : St) (f : Int32 → St → Option β) : ob2 (some (x, I)) f = f x I := rfl
theorem ap_s {α β : Type} (x : α) (f : α → β) : ap x f = f x := rfl
noncomputable def bI (P : Prop) : Int32 := @ite _ P (Classical.propDecidable P) 1 0
theorem bI_t {P : Prop} (h : P) : bI P = 1 := by unfold bI; rw [if_pos h]
theorem bI_f {P : Prop} (h : ¬ P) : bI P = 0 := by unfold bI; rw [if_neg h]
theorem bI_z {P : Prop} : bI P = 0 ↔ ¬ P := by
  by_cases h : P
  · rw [bI_t h]; exact ⟨fun e => absurd e (by decide), fun e => absurd h e⟩
  · rw [bI_f h]; exact ⟨fun _ => h, fun _ => rfl⟩
theorem bI_c {P Q : Prop} (h : P ↔ Q) : bI P = bI Q := by
  by_cases hp : P
  · rw [bI_t hp, bI_t (h.mp hp)]
  · rw [bI_f hp, bI_f (fun q => hp (h.mpr q))]
theorem bI_if {P : Prop} {α : Type} (a b : α) : (if bI P = 0 then a else b) = @ite _ P (Classical.propDecidable P) b a := by
  by_cases h : P
  · rw [if_neg (fun e => bI_z.mp e h), if_pos h]
  · rw [if_pos (bI_z.mpr h), if_neg h]
theorem n60 (n k : Nat) : (60 : Int32) * nI n + nI k = nI (60 * n + k) := by
  rw [show (60 : Int32) = nI 60 from rfl, pk_mul, nI_add]
theorem n3 (n : Nat) : (3 : Int32) * nI n = nI (3 * n) := by rw [show (3 : Int32) = nI 3 from rfl, pk_mul]
theorem n3' (n : Nat) : nI n * (3 : Int32) = nI (3 * n) := by rw [show (3 : Int32) = nI 3 from rfl, pk_mul, Nat.mul_comm]
theorem np3 (n : Nat) : nI n + (3 : Int32) = nI (n + 3) := by rw [show (3 : Int32) = nI 3 from rfl, nI_add]
theorem nz (x : Int32) : x = 0 ∨ ¬ x = 0 := Classical.em _
end
