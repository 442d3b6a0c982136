/-! Where each cell stands in the list of addresses, and what it holds at the start. -/
section
def mK : List (Nat × Nat) := [(7, 6), (6, 6), (6, 6), (6, 6), (6, 6), (7, 6), (6, 6), (6, 6), (6, 6), (6, 360), (6, 360), (6, 360), (6, 360), (6, 360), (6, 16), (6, 16), (6, 16), (6, 128), (6, 32), (6, 16)]
def kdP (p : Nat) : Nat × Nat := if p = 0 then (4, 0) else if p = 1 then (8, 6) else if p = 2 then (9, 16) else if p = 3 then (0, 0) else if p < 46 then (if (p - 4) % 7 = 0 then (2, 0) else if (p - 4) % 7 = 1 then (1, 0) else (6, 60)) else if p < 110 then (if (p - 46) % 4 = 0 then (3, 0) else if (p - 46) % 4 = 1 then (7, 8) else if (p - 46) % 4 = 2 then (6, 8) else (6, 2)) else if p = 110 then (5, 0) else mK.getD (p - 111) (6, 0)
def rP (p j : Nat) : Nat := if p = 0 then (if j = 0 then 3 else if j = 1 then 1 else 2) else if p = 1 then (if j < 6 then 4 + 7 * j else 4) else if p = 2 then (if j < 16 then 46 + 4 * j else 46) else if p = 3 then 3 else if p < 46 then (if (p - 4) % 7 = 0 ∧ j = 2 then p + 1 else if (p - 4) % 7 = 1 ∧ j < 5 then p + 1 + j else 3) else if p < 110 then (if (p - 46) % 4 = 0 ∧ j < 3 then p + 1 + j else 3) else (if p = 110 ∧ 2 ≤ j ∧ j < 16 then 109 + j else if p = 110 ∧ 16 < j ∧ j < 23 then 108 + j else 3)
def iP (ev : Int32) (p j : Nat) : Int32 := if p = 3 then (if j = 0 then ev else 0) else if 4 ≤ p ∧ p < 46 ∧ (p - 4) % 7 = 0 then (if j = 0 then nI ((p - 4) / 7) else if j = 3 then 1 else if j = 8 then (-1) else 0) else if 46 ≤ p ∧ p < 110 ∧ (p - 46) % 4 = 2 then (if j < 8 then (-1) else 0) else if 46 ≤ p ∧ p < 110 ∧ (p - 46) % 4 = 3 then (if j < 2 then (-1) else 0) else if p = 110 then (if j = 0 then ev else 0) else if p = 114 ∨ p = 115 then (if j < 6 then (-1) else 0) else 0
def cP (g : Sg) (ev : Int32) (L : List Nat) (p : Nat) : va_E := wF g (fun j => L.getD (rP p j) 0) (iP ev p) (kdP p)
/-- the cells hold what they should, but for the two arrays of objects -/
def Iv (g : Sg) (ev : Int32) (L : List Nat) (f : Nat → va_E) : Prop := ∀ p, p < L.length → p ≠ 1 → p ≠ 2 → f (L.getD p 0) = cP g ev L p
theorem gD_l {L M : List Nat} {p : Nat} (h : p < L.length) : (L ++ M).getD p 0 = L.getD p 0 := by
  rw [List.getD_eq_getElem?_getD, List.getD_eq_getElem?_getD, List.getElem?_append_left h]
theorem gD_r {L M : List Nat} {p j : Nat} (h : p = L.length + j) : (L ++ M).getD p 0 = M.getD j 0 := by
  rw [List.getD_eq_getElem?_getD, List.getD_eq_getElem?_getD, List.getElem?_append_right (by omega)]
  congr 2
  omega
theorem gD_m {L : List Nat} {p : Nat} (h : p < L.length) : L.getD p 0 ∈ L := by
  rw [List.getD_eq_getElem?_getD, List.getElem?_eq_getElem h]
  exact List.getElem_mem h
theorem gD_i {L : List Nat} {p q : Nat} (hN : L.Nodup) (hp : p < L.length) (hq : q < L.length) (h : L.getD p 0 = L.getD q 0) : p = q := by
  rw [List.getD_eq_getElem?_getD, List.getD_eq_getElem?_getD, List.getElem?_eq_getElem hp, List.getElem?_eq_getElem hq] at h
  have h : L[p] = L[q] := h
  exact (List.getElem?_inj hp hN).mp (by rw [List.getElem?_eq_getElem hp, List.getElem?_eq_getElem hq, h])
theorem cP_app {g : Sg} {ev : Int32} {L M : List Nat} {p : Nat} (h : ∀ j, rP p j < L.length) : cP g ev (L ++ M) p = cP g ev L p := by
  unfold cP
  congr 1
  funext j
  exact gD_l (h j)
theorem rP_1 {i p j : Nat} (h : p < 4 + 7 * i) (hi : i ≤ 6) (h1 : p ≠ 1) (h2 : p ≠ 2) : rP p j < 4 + 7 * i := by
  unfold rP
  repeat' split
  all_goals omega
theorem rP_2 {t p j : Nat} (h : p < 46 + 4 * t) (ht : t ≤ 16) (h1 : p ≠ 1) (h2 : p ≠ 2) : rP p j < 46 + 4 * t := by
  unfold rP
  repeat' split
  all_goals omega
theorem cP_node {g : Sg} {ev : Int32} {L : List Nat} {i : Nat} (hi : i < 6) : cP g ev L (4 + 7 * i) = .inr (2, [.int (nI i), .ref (L.getD 3 0), .ref (L.getD (5 + 7 * i) 0), .int 1, .int 0, .int 0, .int 0, .int 0, .int (-1), .int 0]) := by
  have k : kdP (4 + 7 * i) = (2, 0) := by
    unfold kdP
    repeat' split
    all_goals first | rfl | omega
  have r1 : rP (4 + 7 * i) 1 = 3 := by
    unfold rP
    repeat' split
    all_goals omega
  have r2 : rP (4 + 7 * i) 2 = 5 + 7 * i := by
    unfold rP
    repeat' split
    all_goals omega
  have e : ∀ j, iP ev (4 + 7 * i) j = if j = 0 then nI i else if j = 3 then 1 else if j = 8 then (-1) else 0 := by
    intro j
    unfold iP
    rw [if_neg (by omega), if_pos (by omega), show (4 + 7 * i - 4) / 7 = i by omega]
  unfold cP
  rw [k]
  show (.inr (2, [.int (iP ev (4 + 7 * i) 0), .ref (L.getD (rP (4 + 7 * i) 1) 0), .ref (L.getD (rP (4 + 7 * i) 2) 0), .int (iP ev (4 + 7 * i) 3), .int (iP ev (4 + 7 * i) 4), .int (iP ev (4 + 7 * i) 5), .int (iP ev (4 + 7 * i) 6), .int (iP ev (4 + 7 * i) 7), .int (iP ev (4 + 7 * i) 8), .int (iP ev (4 + 7 * i) 9)]) : va_E) = _
  rw [r1, r2, e, e, e, e, e, e, e, e]
  rfl
theorem cP_log {g : Sg} {ev : Int32} {L : List Nat} {i : Nat} (hi : i < 6) : cP g ev L (5 + 7 * i) = .inr (1, [.ref (L.getD (6 + 7 * i) 0), .ref (L.getD (7 + 7 * i) 0), .ref (L.getD (8 + 7 * i) 0), .ref (L.getD (9 + 7 * i) 0), .ref (L.getD (10 + 7 * i) 0), .int 0, .int 0]) := by
  have k : kdP (5 + 7 * i) = (1, 0) := by
    unfold kdP
    repeat' split
    all_goals first | rfl | omega
  have r : ∀ j, j < 5 → rP (5 + 7 * i) j = 6 + 7 * i + j := by
    intro j hj
    unfold rP
    repeat' split
    all_goals omega
  have e : ∀ j, iP ev (5 + 7 * i) j = 0 := by
    intro j
    unfold iP
    rw [if_neg (by omega), if_neg (by omega), if_neg (by omega), if_neg (by omega), if_neg (by omega), if_neg (by omega)]
  unfold cP
  rw [k]
  show (.inr (1, [.ref (L.getD (rP (5 + 7 * i) 0) 0), .ref (L.getD (rP (5 + 7 * i) 1) 0), .ref (L.getD (rP (5 + 7 * i) 2) 0), .ref (L.getD (rP (5 + 7 * i) 3) 0), .ref (L.getD (rP (5 + 7 * i) 4) 0), .int (iP ev (5 + 7 * i) 5), .int (iP ev (5 + 7 * i) 6)]) : va_E) = _
  rw [r 0 (by omega), r 1 (by omega), r 2 (by omega), r 3 (by omega), r 4 (by omega), e, e, show 6 + 7 * i + 1 = 7 + 7 * i by omega, show 6 + 7 * i + 2 = 8 + 7 * i by omega, show 6 + 7 * i + 3 = 9 + 7 * i by omega, show 6 + 7 * i + 4 = 10 + 7 * i by omega]
  rfl
theorem cP_arr {g : Sg} {ev : Int32} {L : List Nat} {i p : Nat} (hi : i < 6) (h1 : 6 + 7 * i ≤ p) (h2 : p < 11 + 7 * i) : cP g ev L p = .inl (g.cI, 60, .inl (fun _ => 0)) := by
  have k : kdP p = (6, 60) := by
    unfold kdP
    repeat' split
    all_goals first | rfl | omega
  have e : iP ev p = fun _ => 0 := by
    funext j
    unfold iP
    rw [if_neg (by omega), if_neg (by omega), if_neg (by omega), if_neg (by omega), if_neg (by omega), if_neg (by omega)]
  unfold cP
  rw [k, e]
  rfl
theorem cP_txn {g : Sg} {ev : Int32} {L : List Nat} {i : Nat} (hi : i < 16) : cP g ev L (46 + 4 * i) = .inr (3, [.ref (L.getD (47 + 4 * i) 0), .ref (L.getD (48 + 4 * i) 0), .ref (L.getD (49 + 4 * i) 0), .int 0, .int 0]) := by
  have k : kdP (46 + 4 * i) = (3, 0) := by
    unfold kdP
    repeat' split
    all_goals first | rfl | omega
  have r : ∀ j, j < 3 → rP (46 + 4 * i) j = 47 + 4 * i + j := by
    intro j hj
    unfold rP
    repeat' split
    all_goals omega
  have e : ∀ j, iP ev (46 + 4 * i) j = 0 := by
    intro j
    unfold iP
    rw [if_neg (by omega), if_neg (by omega), if_neg (by omega), if_neg (by omega), if_neg (by omega), if_neg (by omega)]
  unfold cP
  rw [k]
  show (.inr (3, [.ref (L.getD (rP (46 + 4 * i) 0) 0), .ref (L.getD (rP (46 + 4 * i) 1) 0), .ref (L.getD (rP (46 + 4 * i) 2) 0), .int (iP ev (46 + 4 * i) 3), .int (iP ev (46 + 4 * i) 4)]) : va_E) = _
  rw [r 0 (by omega), r 1 (by omega), r 2 (by omega), e, e, show 47 + 4 * i + 1 = 48 + 4 * i by omega, show 47 + 4 * i + 2 = 49 + 4 * i by omega]
  rfl
theorem cP_t1 {g : Sg} {ev : Int32} {L : List Nat} {i : Nat} (hi : i < 16) : cP g ev L (47 + 4 * i) = .inl (g.cZ, 8, .inl (fun _ => 0)) := by
  have k : kdP (47 + 4 * i) = (7, 8) := by
    unfold kdP
    repeat' split
    all_goals first | rfl | omega
  have e : iP ev (47 + 4 * i) = fun _ => 0 := by
    funext j
    unfold iP
    rw [if_neg (by omega), if_neg (by omega), if_neg (by omega), if_neg (by omega), if_neg (by omega), if_neg (by omega)]
  unfold cP
  rw [k, e]
  rfl
theorem cP_t2 {g : Sg} {ev : Int32} {L : List Nat} {i : Nat} (hi : i < 16) : cP g ev L (48 + 4 * i) = .inl (g.cI, 8, .inl (fun j => if j < 8 then (-1) else 0)) := by
  have k : kdP (48 + 4 * i) = (6, 8) := by
    unfold kdP
    repeat' split
    all_goals first | rfl | omega
  have e : iP ev (48 + 4 * i) = fun j => if j < 8 then (-1) else 0 := by
    funext j
    unfold iP
    rw [if_neg (by omega), if_neg (by omega), if_pos (by omega)]
  unfold cP
  rw [k, e]
  rfl
theorem cP_t3 {g : Sg} {ev : Int32} {L : List Nat} {i : Nat} (hi : i < 16) : cP g ev L (49 + 4 * i) = .inl (g.cI, 2, .inl (fun j => if j < 2 then (-1) else 0)) := by
  have k : kdP (49 + 4 * i) = (6, 2) := by
    unfold kdP
    repeat' split
    all_goals first | rfl | omega
  have e : iP ev (49 + 4 * i) = fun j => if j < 2 then (-1) else 0 := by
    funext j
    unfold iP
    rw [if_neg (by omega), if_neg (by omega), if_neg (by omega), if_pos (by omega)]
  unfold cP
  rw [k, e]
  rfl
end
