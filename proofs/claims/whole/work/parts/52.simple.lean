/-! SIMPLE CALLS, class and reference, against the abstract state. -/
theorem AX0.mk' {z z' : Sg} {a a' : Ab} (h : AX0 z a)
    (h0 : ((∀ u, 1 ≤ u → u ≤ 4 → rI z' u = rI z u) ∧ aT0 a' = aT0 a) ∨ TxX false (rI z' 1) (rI z' 2) (rI z' 3) (rI z' 4) (aT0 a'))
    (h1 : ((∀ u, 5 ≤ u → u ≤ 8 → rI z' u = rI z u) ∧ aT1 a' = aT1 a) ∨ TxX true (rI z' 5) (rI z' 6) (rI z' 7) (rI z' 8) (aT1 a'))
    (h2 : (rI z' 9 = rI z 9 ∧ a'.2.2.1 = a.2.2.1) ∨ StX (rI z' 9) (aE a') (aS a') (aK a'))
    (h3 : ((∀ u, 10 ≤ u → u ≤ 12 → rI z' u = rI z u) ∧ aH a' = aH a) ∨ BkX (rI z' 10) (rI z' 11) (rI z' 12) (aH a'))
    (h4 : ((∀ u, 13 ≤ u → u ≤ 15 → rI z' u = rI z u) ∧ aC a' = aC a) ∨ BkX (rI z' 13) (rI z' 14) (rI z' 15) (aC a'))
    (h5 : ((∀ u, 16 ≤ u → u ≤ 19 → rI z' u = rI z u) ∧ aW a' = aW a) ∨ SnX (rI z' 16) (rI z' 17) (rI z' 18) (rI z' 19) (aW a'))
    (h6 : ((∀ u, 45 ≤ u → u ≤ 52 → rI z' u = rI z u) ∧ aSh a' = aSh a) ∨ ShX z' (aSh a'))
    (h7 : (rI z' 0 12 = rI z 0 12 ∧ aF a' = aF a) ∨ (rI z' 0 12 = nI (aF a') ∧ aF a' ≤ 5)) : AX0 z' a' := by
  obtain ⟨g0, g1, g2, g3, g4, g5, g6, g7⟩ := h
  refine ⟨?_, ?_, ?_, ?_, ?_, ?_, ?_, ?_⟩
  · rcases h0 with ⟨q, e⟩ | q
    · rw [q 1 (by omega) (by omega), q 2 (by omega) (by omega), q 3 (by omega) (by omega), q 4 (by omega) (by omega), e]; exact g0
    · exact q
  · rcases h1 with ⟨q, e⟩ | q
    · rw [q 5 (by omega) (by omega), q 6 (by omega) (by omega), q 7 (by omega) (by omega), q 8 (by omega) (by omega), e]; exact g1
    · exact q
  · rcases h2 with ⟨q, e⟩ | q
    · unfold aE aS aK; rw [q, e]; exact g2
    · exact q
  · rcases h3 with ⟨q, e⟩ | q
    · rw [q 10 (by omega) (by omega), q 11 (by omega) (by omega), q 12 (by omega) (by omega), e]; exact g3
    · exact q
  · rcases h4 with ⟨q, e⟩ | q
    · rw [q 13 (by omega) (by omega), q 14 (by omega) (by omega), q 15 (by omega) (by omega), e]; exact g4
    · exact q
  · rcases h5 with ⟨q, e⟩ | q
    · rw [q 16 (by omega) (by omega), q 17 (by omega) (by omega), q 18 (by omega) (by omega), q 19 (by omega) (by omega), e]; exact g5
    · exact q
  · rcases h6 with ⟨q, e⟩ | q
    · rw [e]
      intro s hs
      obtain ⟨k1, k2, k3, k4, k5⟩ := g6 s hs
      rw [q (45 + 2 * s) (by omega) (by omega), q (46 + 2 * s) (by omega) (by omega)]
      exact ⟨k1, k2, k3, k4, k5⟩
    · exact q
  · rcases h7 with ⟨q, e⟩ | q
    · rw [q, e]; exact g7
    · exact q
/-- nothing that the abstract state speaks of has changed -/
theorem AX0.fr {z z' : Sg} {a : Ab} (h : AX0 z a) (hu : ∀ u, 1 ≤ u → ¬ (20 ≤ u ∧ u ≤ 43) → rI z' u = rI z u) (h0 : rI z' 0 12 = rI z 0 12) : AX0 z' a :=
  h.mk' (Or.inl ⟨fun u _ _ => hu u (by omega) (by omega), rfl⟩) (Or.inl ⟨fun u _ _ => hu u (by omega) (by omega), rfl⟩) (Or.inl ⟨hu 9 (by omega) (by omega), rfl⟩) (Or.inl ⟨fun u _ _ => hu u (by omega) (by omega), rfl⟩) (Or.inl ⟨fun u _ _ => hu u (by omega) (by omega), rfl⟩) (Or.inl ⟨fun u _ _ => hu u (by omega) (by omega), rfl⟩) (Or.inl ⟨fun u _ _ => hu u (by omega) (by omega), rfl⟩) (Or.inl ⟨h0, rfl⟩)
def fup (f : Nat → Nat) (k v : Nat) : Nat → Nat := fun j => if j = k then v else f j
theorem fup_a (f : Nat → Nat) (k v j : Nat) : fup f k v j = if j = k then v else f j := rfl
def bkAdd (i j : Int32) (b : Bk) : Int32 × Bk := if (i < 0 ∨ nI 40 ≤ i) ∨ (j < 0 ∨ nI 8 ≤ j) then (-2, b) else if 12 ≤ b.1 then (-4, b) else (nI (b.1 + 1), (b.1 + 1, fup b.2.1 b.1 (ix i), fup b.2.2 b.1 (ix j)))
theorem BkX.add {o w p : Nat → Int32} {b : Bk} {i j : Nat} (h : BkX o w p b) (hn : b.1 < 12) (hi : i < 40) (hj : j < 8) : BkX (upd o 2 (nI (b.1 + 1))) (upd w b.1 (nI i)) (upd p b.1 (nI j)) (b.1 + 1, fup b.2.1 b.1 i, fup b.2.2 b.1 j) := by
  obtain ⟨h1, h2, h3⟩ := h
  refine ⟨by simp [upd], by show b.1 + 1 ≤ 12; omega, fun q hq => ?_⟩
  have hq : q < b.1 + 1 := hq
  by_cases e : q = b.1
  · subst e; simp [upd, fup, hi, hj]
  · simp only [upd, fup, e, if_false]
    exact h3 q (by omega)
theorem X0_add {z : Sg} {t : Nat} {b : Bk} (h : BkX (rI z t) (rI z (t + 1)) (rI z (t + 2)) b) (i j : Int32) : ∃ z', f_X0_add t i j z = some ((bkAdd i j b).1, z') ∧ BkX (rI z' t) (rI z' (t + 1)) (rI z' (t + 2)) (bkAdd i j b).2 ∧ (∀ u, u ≠ t → u ≠ t + 1 → u ≠ t + 2 → rI z' u = rI z u) ∧ z'.2 = z.2 := by
  unfold f_X0_add
  rw [show (40 : Int32) = nI 40 from rfl, show (8 : Int32) = nI 8 from rfl]
  rcases arg_cases i 40 (by decide) with hi | ⟨i, hi, rfl⟩
  · refine ⟨z, ?_, ?_, fun _ _ _ _ => rfl, rfl⟩
    · simp [x_out_bad hi, b1_some, bkAdd, hi]
    · simp only [bkAdd, hi, true_or, if_true]; exact h
  · have hi' : ¬ (nI i < 0 ∨ nI 40 ≤ nI i) := by rintro (q | q); exact nI_pos (by omega) q; exact nI_ge hi (by decide) q
    rcases arg_cases j 8 (by decide) with hj | ⟨j, hj, rfl⟩
    · refine ⟨z, ?_, ?_, fun _ _ _ _ => rfl, rfl⟩
      · simp [x_out_nI hi (by decide : 40 < 2 ^ 31), x_out_bad hj, b1_some, bkAdd, hi', hj]
      · simp only [bkAdd, hi', hj, or_true, if_true]; exact h
    · have hj' : ¬ (nI j < 0 ∨ nI 8 ≤ nI j) := by rintro (q | q); exact nI_pos (by omega) q; exact nI_ge hj (by decide) q
      obtain ⟨h1, h2, h3⟩ := id h
      simp only [x_out_nI hi (by decide : 40 < 2 ^ 31), x_out_nI hj (by decide : 8 < 2 ^ 31), b1_some, not_true, if_false, Bool.false_eq_true]
      rw [show (12 : Int32) = nI 12 from rfl, h1]
      by_cases hf : 12 ≤ b.1
      · have e : b.1 = 12 := by omega
        refine ⟨z, ?_, ?_, fun _ _ _ _ => rfl, rfl⟩
        · rw [if_pos (by rw [e]; exact Int32.le_refl _)]
          simp [bkAdd, hi', hj', hf]
        · simp only [bkAdd, hi', hj', or_self, if_false, hf, if_true]; exact h
      · have hl : b.1 < 12 := by omega
        rw [if_neg (nI_ge hl (by decide))]
        have e1 : rI (wI z (t + 1) (ix (nI b.1)) (nI i)) t 2 = nI b.1 := by rw [rI_wI, if_neg (by omega), h1]
        rw [e1, ck_pos (ib_nI hl (by decide)), ck_pos (ib_nI hl (by decide)), ix_nI (by omega)]
        have e2 : rI (wI (wI z (t + 1) b.1 (nI i)) (t + 2) b.1 (nI j)) t 2 = nI b.1 := by rw [rI_wI, if_neg (by omega), rI_wI, if_neg (by omega), h1]
        rw [e2, nI_l1]
        refine ⟨wI (wI (wI z (t + 1) b.1 (nI i)) (t + 2) b.1 (nI j)) t 2 (nI (b.1 + 1)), ?_, ?_, fun u h1 h2 h3 => ?_, rfl⟩
        · rw [rI_wI, if_pos ⟨rfl, rfl⟩]
          simp only [bkAdd, hi', hj', or_self, if_false, hf]
        · simp only [bkAdd, hi', hj', or_self, if_false, hf, ix_nI (show i < 2 ^ 31 by omega), ix_nI (show j < 2 ^ 31 by omega)]
          have := h.add hl hi hj
          simp only [rIf_wI, show ¬ t = t + 1 by omega, show ¬ t = t + 2 by omega, show ¬ t + 1 = t by omega, show ¬ t + 1 = t + 2 by omega, show ¬ t + 2 = t by omega, show ¬ t + 2 = t + 1 by omega, if_true, if_false]
          exact this
        · simp only [rIf_wI, h1, h2, h3, if_false]
