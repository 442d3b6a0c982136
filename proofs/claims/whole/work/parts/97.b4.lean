section
variable {R : Nat → Nat → Nat} {A : Nat → Nat} {I J : St} {n t g : Nat}
/-- an OUTCOME of t is written at n, in group g -/
def WoP (A : Nat → Nat) (I : St) (t g n : Nat) : Prop := n < 6 ∧ n / 3 = g ∧ rdy A I g = nI n ∧ HasE A I n 1 (nI t) ∧ ¬ HasE A I n 2 (nI t) ∧ ¬ HasE A I n 3 (nI t) ∧ bar A I n (nx A I n) = 0
def ouT (A : Nat → Nat) (I : St) (t : Nat) : Int32 := if I (A 125) t = 3 then I (A 130) t else -1
theorem rdy_1 {m : Nat} (hn : n < 6) (hm : m < 6) (h1 : rdy A I g = nI n) (h2 : rdy A I g = nI m) : n = m := nI_inj (by omega) (by omega) (h1.symm.trans h2)
theorem C_wo (hs : Sx R A) (hg : g < 2) (sg : SG A I g) (ht : t < 16) (s3 : I (A (46 + 4 * t)) 3 = I (A 125) t) (s4 : I (A (46 + 4 * t)) 4 = I (A 130) t) (nb : NB A I) (nse : ∀ n, n < 6 → n / 3 = g → NS A I n ∧ EB A I n) : ((¬ ∃ n, WoP A I t g n) ∧ F_Store_writeOutcome R (A 0) (nI t) (nI g) I = some I) ∨ ∃ n ln J, WoP A I t g n ∧ ln < 60 ∧ I (A 118) n = nI ln ∧ ¬ I (A 117) n ≤ nx A I n ∧ F_Store_writeOutcome R (A 0) (nI t) (nI g) I = some J ∧ PuC A I J n ln (I (A 113) n) (nx A I n) 3 (nI t) (ouT A I t) := by
  have RS := hs.all
  unfold F_Store_writeOutcome B_Store_writeOutcome_87
  rw [C_ready2 hs sg hg, ob_s]
  rcases rdy_c A I hg with ⟨r1, r2⟩ | ⟨n, r1, hn, r3, r4⟩
  · rw [r1, if_pos rfl]
    exact Or.inl ⟨fun ⟨n, h1, h2, h3, h4⟩ => by rw [r1] at h3; exact nI_nm1 (by omega) h3.symm, rfl⟩
  · obtain ⟨sn, sl, vn⟩ := sg.2 n hn r1
    obtain ⟨ns, eb⟩ := nse n hn r1
    have key : ∀ m, WoP A I t g m → m = n := fun m h => rdy_1 h.1 hn h.2.2.1 r3
    rw [r3, if_neg (nI_nm1 (by omega)), chk_nI hn (by omega), chk_nI hn (by omega), chk_nI ht (by omega), nI_clamp (by omega), nI_clamp (by omega)]
    simp only [RS, hn, ht]
    rw [C_has hs hn sn sl vn, ob_s, C_has hs hn sn sl vn, ob_s, C_has hs hn sn sl vn, ob_s, bI_if, bI_if, bI_if, s3, s4]
    by_cases l1 : HasE A I n 1 (nI t)
    · rw [if_pos l1]
      by_cases l2 : HasE A I n 2 (nI t)
      · rw [if_pos l2]
        exact Or.inl ⟨fun ⟨m, h⟩ => by have := key m h; subst this; exact h.2.2.2.2.1 l2, rfl⟩
      · rw [if_neg l2]
        by_cases l3 : HasE A I n 3 (nI t)
        · rw [if_pos l3]
          exact Or.inl ⟨fun ⟨m, h⟩ => by have := key m h; subst this; exact h.2.2.2.2.2.1 l3, rfl⟩
        · rw [if_neg l3]
          have hou : ∀ w, (ob2 (F_Node_put R (A (4 + 7 * n)) 3 (nI t) (ouT A I t) 0 I) (fun v88 I88 => some I88)) = w → (if I (A 125) t = (3 : Int32) then (ob2 (F_Node_put R (A (4 + 7 * n)) 3 (nI t) (I (A 130) t) 0 I) (fun v88 I88 => some I88)) else (ob2 (F_Node_put R (A (4 + 7 * n)) 3 (nI t) (-1) 0 I) (fun v88 I88 => some I88))) = w := by
            intro w hw
            unfold ouT at hw
            by_cases e : I (A 125) t = 3
            · rw [if_pos e] at hw ⊢; exact hw
            · rw [if_neg e] at hw ⊢; exact hw
          have ep := C_put hs hn sg.1 sn sl vn nb ns eb 3 (nI t) (ouT A I t) 0
          rw [imax_0 nb ns eb] at ep
          rcases ep with ⟨e1, e2⟩ | ⟨ln, J, e1, e2, e3, e4, e5, e6⟩
          · exact Or.inl ⟨fun ⟨m, h⟩ => by have := key m h; subst this; rw [h.2.2.2.2.2.2] at e1; exact absurd e1 (by decide), hou _ (by rw [e2, ob2_s])⟩
          · exact Or.inr ⟨n, ln, J, ⟨hn, r1, r3, l1, l2, l3, e4⟩, e1, e2, e3, hou _ (by rw [e5, ob2_s]), e6⟩
    · rw [if_neg l1]
      exact Or.inl ⟨fun ⟨m, h⟩ => by have := key m h; subst this; exact l1 h.2.2.2.1, rfl⟩
theorem M_wo (hs : Sx R A) (hg : g < 2) (va : ∀ n, n < 6 → n / 3 = g → VN A I n) (ht : t < 16) (h3 : ¬ I (A 125) t < 3) (nb : NB A I) (nse : ∀ n, n < 6 → n / 3 = g → NS A I n ∧ EB A I n) (f : Nat) : ((¬ ∃ n, WoP A I t g n) ∧ B_Model_step_47 R (f + 1) (A 110) (nI t) (nI g) I = B_Model_step_47 R f (A 110) (nI t) (nI (g + 1)) I) ∨ ∃ n ln J, WoP A I t g n ∧ ln < 60 ∧ I (A 118) n = nI ln ∧ B_Model_step_47 R (f + 1) (A 110) (nI t) (nI g) I = B_Model_step_47 R f (A 110) (nI t) (nI (g + 1)) J ∧ PuM A I J n ln (I (A 113) n) (nx A I n) 3 (nI t) (ouT A I t) := by
  have RS := hs.all
  rw [B_Model_step_47]
  unfold B_Model_step_143 B_Model_step_148
  rw [if_neg (show ¬ (2 : Int32) ≤ nI g from nI_ge (b := 2) hg (by omega)), nI_1, M_ready2 hs va hg, ob_s]
  simp only [chk_nI ht (show 16 < 2 ^ 31 by omega), nI_clamp (show t < 2 ^ 31 by omega), RS]
  rw [if_neg h3]
  rcases rdy_c A I hg with ⟨r1, r2⟩ | ⟨n, r1, hn, r3, r4⟩
  · rw [r1, if_pos (by decide)]
    exact Or.inl ⟨fun ⟨n, h1, h2, h3, h4⟩ => by rw [r1] at h3; exact nI_nm1 (by omega) h3.symm, rfl⟩
  · have vn := va n hn r1
    obtain ⟨ns, eb⟩ := nse n hn r1
    have key : ∀ m, WoP A I t g m → m = n := fun m h => rdy_1 h.1 hn h.2.2.1 r3
    rw [r3, if_neg (nI_pos (by omega)), M_has hs hn vn, ob_s, M_has hs hn vn, ob_s, M_has hs hn vn, ob_s, bI_if, bI_if, bI_if, M_next hs hn vn nb ns eb, ob_s, M_bars hs hn, ob_s]
    by_cases l1 : HasE A I n 1 (nI t)
    · rw [if_pos l1]
      by_cases l2 : HasE A I n 2 (nI t)
      · rw [if_pos l2]
        exact Or.inl ⟨fun ⟨m, h⟩ => by have := key m h; subst this; exact h.2.2.2.2.1 l2, rfl⟩
      · rw [if_neg l2]
        by_cases l3 : HasE A I n 3 (nI t)
        · rw [if_pos l3]
          exact Or.inl ⟨fun ⟨m, h⟩ => by have := key m h; subst this; exact h.2.2.2.2.2.1 l3, rfl⟩
        · rw [if_neg l3]
          by_cases l4 : bar A I n (nx A I n) = 0
          · rw [if_pos l4]
            have hne : ¬ I (A 118) n = 60 := fun e => by unfold bar at l4; rw [cif_t e] at l4; exact absurd l4 (by decide)
            obtain ⟨v1, v2, v3, v4⟩ := vn.s
            have hlt : lnN A I n < 60 := Nat.lt_of_le_of_ne v4 (fun e => hne (by rw [v1, e]; rfl))
            obtain ⟨J, ej, pj⟩ := M_put (I := I) hs hn hlt v1 3 (nI t) (ouT A I t) (nx A I n)
            refine Or.inr ⟨n, lnN A I n, J, ⟨hn, r1, r3, l1, l2, l3, l4⟩, hlt, v1, ?_, pj⟩
            unfold ouT at ej
            by_cases e : I (A 125) t = 3
            · rw [if_pos e] at ej ⊢; rw [ej, ob_s]
            · rw [if_neg e] at ej ⊢; rw [ej, ob_s]
          · rw [if_neg l4]
            exact Or.inl ⟨fun ⟨m, h⟩ => by have := key m h; subst this; exact l4 h.2.2.2.2.2.2, rfl⟩
    · rw [if_neg l1]
      exact Or.inl ⟨fun ⟨m, h⟩ => by have := key m h; subst this; exact l1 h.2.2.2.1, rfl⟩
end
