/-! SIMPLE CALLS of the reference. -/
/-- the scalars of the object that the abstract state speaks of -/
abbrev scM (k : Nat) : Prop := k = 9 ∨ k = 10 ∨ k = 11 ∨ k = 12 ∨ k = 15 ∨ k = 27 ∨ k = 36
theorem AM.mk' {z z' : Sg} {a a' : Ab} (h : AM z a)
    (h0 : (rI z' 1 = rI z 1 ∧ rI z' 2 = rI z 2 ∧ aT0 a' = aT0 a ∧ aT1 a' = aT1 a) ∨ (TxM 0 (rI z' 1) (rI z' 2) (aT0 a') ∧ TxM 1 (rI z' 1) (rI z' 2) (aT1 a')))
    (h2 : (rI z' 0 9 = rI z 0 9 ∧ rI z' 0 10 = rI z 0 10 ∧ rI z' 0 11 = rI z 0 11 ∧ a'.2.2.1 = a.2.2.1) ∨ (rI z' 0 9 = nI (aE a') ∧ rI z' 0 10 = nI (aS a') ∧ rI z' 0 11 = nI (aK a') ∧ aE a' ≤ 4 ∧ aS a' < 16 ∧ 1 ≤ aK a' ∧ aK a' ≤ 9))
    (h3 : (rI z' 0 12 = rI z 0 12 ∧ rI z' 8 = rI z 8 ∧ rI z' 9 = rI z 9 ∧ aH a' = aH a) ∨ BkM (rI z' 0 12) (rI z' 8) (rI z' 9) (aH a'))
    (h4 : (rI z' 0 15 = rI z 0 15 ∧ rI z' 10 = rI z 10 ∧ rI z' 11 = rI z 11 ∧ aC a' = aC a) ∨ BkM (rI z' 0 15) (rI z' 10) (rI z' 11) (aC a'))
    (h5 : (rI z' 0 27 = rI z 0 27 ∧ rI z' 19 = rI z 19 ∧ rI z' 20 = rI z 20 ∧ rI z' 21 = rI z 21 ∧ aW a' = aW a) ∨ SnM (rI z' 0 27) (rI z' 19) (rI z' 20) (rI z' 21) (aW a'))
    (h6 : (rI z' 22 = rI z 22 ∧ rI z' 23 = rI z 23 ∧ rI z' 24 = rI z 24 ∧ rI z' 25 = rI z 25 ∧ aSh a' = aSh a) ∨ ShM (rI z' 22) (rI z' 23) (rI z' 24) (rI z' 25) (aSh a'))
    (h7 : (rI z' 0 36 = rI z 0 36 ∧ aF a' = aF a) ∨ (rI z' 0 36 = nI (aF a') ∧ aF a' ≤ 5)) : AM z' a' := by
  obtain ⟨g0, g1, g2, g3, g4, g5, g6, g7⟩ := h
  refine ⟨?_, ?_, ?_, ?_, ?_, ?_, ?_, ?_⟩
  · rcases h0 with ⟨q1, q2, e0, e1⟩ | q
    · rw [q1, q2, e0]; exact g0
    · exact q.1
  · rcases h0 with ⟨q1, q2, e0, e1⟩ | q
    · rw [q1, q2, e1]; exact g1
    · exact q.2
  · rcases h2 with ⟨q1, q2, q3, e⟩ | q
    · unfold aE aS aK; rw [q1, q2, q3, e]; exact g2
    · exact q
  · rcases h3 with ⟨q1, q2, q3, e⟩ | q
    · rw [q1, q2, q3, e]; exact g3
    · exact q
  · rcases h4 with ⟨q1, q2, q3, e⟩ | q
    · rw [q1, q2, q3, e]; exact g4
    · exact q
  · rcases h5 with ⟨q1, q2, q3, q4, e⟩ | q
    · rw [q1, q2, q3, q4, e]; exact g5
    · exact q
  · rcases h6 with ⟨q1, q2, q3, q4, e⟩ | q
    · rw [q1, q2, q3, q4, e]; exact g6
    · exact q
  · rcases h7 with ⟨q1, e⟩ | q
    · rw [q1, e]; exact g7
    · exact q
/-- nothing that the abstract state speaks of has changed -/
theorem AM.fr {z z' : Sg} {a : Ab} (h : AM z a) (hs : ∀ k, scM k → rI z' 0 k = rI z 0 k) (h1 : rI z' 1 = rI z 1) (h2 : rI z' 2 = rI z 2) (h8 : ∀ u, 8 ≤ u → u ≤ 11 → rI z' u = rI z u) (h19 : ∀ u, 19 ≤ u → u ≤ 25 → rI z' u = rI z u) : AM z' a :=
  h.mk' (Or.inl ⟨h1, h2, rfl, rfl⟩) (Or.inl ⟨hs 9 (by decide), hs 10 (by decide), hs 11 (by decide), rfl⟩) (Or.inl ⟨hs 12 (by decide), h8 8 (by omega) (by omega), h8 9 (by omega) (by omega), rfl⟩) (Or.inl ⟨hs 15 (by decide), h8 10 (by omega) (by omega), h8 11 (by omega) (by omega), rfl⟩) (Or.inl ⟨hs 27 (by decide), h19 19 (by omega) (by omega), h19 20 (by omega) (by omega), h19 21 (by omega) (by omega), rfl⟩) (Or.inl ⟨h19 22 (by omega) (by omega), h19 23 (by omega) (by omega), h19 24 (by omega) (by omega), h19 25 (by omega) (by omega), rfl⟩) (Or.inl ⟨hs 36 (by decide), rfl⟩)
theorem BkM.add {c : Int32} {w p : Nat → Int32} {b : Bk} {i j : Nat} (h : BkM c w p b) (hn : b.1 < 12) (hi : i < 40) (hj : j < 8) : BkM (nI (b.1 + 1)) (upd w b.1 (nI i)) (upd p b.1 (nI j)) (b.1 + 1, fup b.2.1 b.1 i, fup b.2.2 b.1 j) := by
  obtain ⟨h1, h2, h3⟩ := h
  refine ⟨rfl, by show b.1 + 1 ≤ 12; omega, fun q hq => ?_⟩
  have hq : q < b.1 + 1 := hq
  by_cases e : q = b.1
  · subst e; simp [upd, fup, hi, hj]
  · simp only [upd, fup, e, if_false]
    exact h3 q (by omega)
theorem m_isWeek_bad {a : Int32} (h : bad a 40) : f_X8_isWeek a = some 0 := by
  have e : f_X8_in a 0 39 = some 0 := m_in_bad (n := 39) (by decide) h
  unfold f_X8_isWeek; rw [e]; rfl
theorem m_isWeek {i : Nat} (h : i < 40) : f_X8_isWeek (nI i) = some 1 := by
  have e : f_X8_in (nI i) 0 39 = some 1 := m_in_nI (n := 39) (by omega) (by decide)
  unfold f_X8_isWeek; rw [e]; rfl
theorem m_isEight_bad {a : Int32} (h : bad a 8) : f_X8_isEight a = some 0 := by
  have e : f_X8_in a 0 7 = some 0 := m_in_bad (n := 7) (by decide) h
  unfold f_X8_isEight; rw [e]; rfl
theorem m_isEight {i : Nat} (h : i < 8) : f_X8_isEight (nI i) = some 1 := by
  have e : f_X8_in (nI i) 0 7 = some 1 := m_in_nI (n := 7) (by omega) (by decide)
  unfold f_X8_isEight; rw [e]; rfl
theorem m_isSheet_bad {a : Int32} (h : bad a 4) : f_X8_isSheet a = some 0 := by
  have e : f_X8_in a 0 3 = some 0 := m_in_bad (n := 3) (by decide) h
  unfold f_X8_isSheet; rw [e]; rfl
theorem m_isSheet {i : Nat} (h : i < 4) : f_X8_isSheet (nI i) = some 1 := by
  have e : f_X8_in (nI i) 0 3 = some 1 := m_in_nI (n := 3) (by omega) (by decide)
  unfold f_X8_isSheet; rw [e]; rfl
theorem m_isText_bad {a : Int32} (h : bad a 2) : f_X8_isText a = some 0 := by
  have e : f_X8_in a 0 1 = some 0 := m_in_bad (n := 1) (by decide) h
  unfold f_X8_isText; rw [e]; rfl
theorem m_isText {i : Nat} (h : i < 2) : f_X8_isText (nI i) = some 1 := by
  have e : f_X8_in (nI i) 0 1 = some 1 := m_in_nI (n := 1) (by omega) (by decide)
  unfold f_X8_isText; rw [e]; rfl
theorem ne10 : ¬ ((1 : Int32) = 0) := by decide
theorem M_handing {z : Sg} {a : Ab} (h : AM z a) (i j : Int32) : ∃ z', f_X8_handing i j z = some ((sHanding i j a).1, z') ∧ AM z' (sHanding i j a).2 := by
  unfold f_X8_handing
  have hB := h.2.2.2.1
  rcases arg_cases i 40 (by decide) with hi | ⟨i, hi, rfl⟩
  · exact ⟨z, by simp [m_isWeek_bad hi, b1_some, sHanding, bkAdd, hi], by simp only [sHanding, bkAdd, hi, true_or, if_true]; exact h⟩
  rcases arg_cases j 8 (by decide) with hj | ⟨j, hj, rfl⟩
  · exact ⟨z, by simp [m_isWeek hi, m_isEight_bad hj, b1_some, sHanding, bkAdd, hj], by simp only [sHanding, bkAdd, hj, or_true, if_true]; exact h⟩
  have n1 := not_bad hi (by decide)
  have n2 := not_bad hj (by decide)
  obtain ⟨h1, h2, h3⟩ := id hB
  simp only [m_isWeek hi, m_isEight hj, b1_some, ne10, not_false_eq_true, if_true, Bool.false_eq_true, if_false, h1, rI_wI, show ¬ (0 = 8 ∧ 12 = ix (nI (aH a).1)) by omega, show ¬ (0 = 9 ∧ 12 = ix (nI (aH a).1)) by omega]
  have e12 : (nI (aH a).1 = (12 : Int32)) ↔ (aH a).1 = 12 := nI_eq (b := 12) (by omega) (by decide)
  simp only [e12, sHanding, bkAdd, n1, n2, or_self, if_false]
  by_cases hf : (aH a).1 = 12
  · simp only [hf, if_true, Nat.le_refl]
    exact ⟨z, rfl, h⟩
  · have hl : (aH a).1 < 12 := by omega
    simp only [hf, if_false, show ¬ 12 ≤ (aH a).1 by omega, ck_pos (ib_nI (show (aH a).1 < 52 by omega) (by decide : 52 < 2 ^ 31)), nI_l1, ix_nI (show (aH a).1 < 2 ^ 31 by omega), and_self, if_true, ix_nI (show i < 2 ^ 31 by omega), ix_nI (show j < 2 ^ 31 by omega)]
    refine ⟨_, rfl, h.mk' (Or.inl ⟨rfl, rfl, rfl, rfl⟩) (Or.inl ⟨by simp [rI_wI], by simp [rI_wI], by simp [rI_wI], rfl⟩) (Or.inr ?_) (Or.inl ⟨by simp [rI_wI], by simp [rIf_wI], by simp [rIf_wI], rfl⟩) (Or.inl ⟨by simp [rI_wI], by simp [rIf_wI], by simp [rIf_wI], by simp [rIf_wI], rfl⟩) (Or.inl ⟨by simp [rIf_wI], by simp [rIf_wI], by simp [rIf_wI], by simp [rIf_wI], rfl⟩) (Or.inl ⟨by simp [rI_wI], rfl⟩)⟩
    have := hB.add hl hi hj
    simp only [rI_wI, rIf_wI, and_self, if_true, show ¬ (8 = 0) by decide, show ¬ (9 = 0) by decide, show ¬ (8 = 9) by decide, show ¬ (9 = 8) by decide, if_false]
    exact this
theorem M_claim {z : Sg} {a : Ab} (h : AM z a) (i j : Int32) : ∃ z', f_X8_claim i j z = some ((sClaim i j a).1, z') ∧ AM z' (sClaim i j a).2 ∧ (∀ u, 12 ≤ u → rI z' u = rI z u) := by
  unfold f_X8_claim
  have hB := h.2.2.2.2.1
  rcases arg_cases i 40 (by decide) with hi | ⟨i, hi, rfl⟩
  · exact ⟨z, by simp [m_isWeek_bad hi, b1_some, sClaim, bkAdd, hi], by simp only [sClaim, bkAdd, hi, true_or, if_true]; exact h, fun _ _ => rfl⟩
  rcases arg_cases j 8 (by decide) with hj | ⟨j, hj, rfl⟩
  · exact ⟨z, by simp [m_isWeek hi, m_isEight_bad hj, b1_some, sClaim, bkAdd, hj], by simp only [sClaim, bkAdd, hj, or_true, if_true]; exact h, fun _ _ => rfl⟩
  have n1 := not_bad hi (by decide)
  have n2 := not_bad hj (by decide)
  obtain ⟨h1, h2, h3⟩ := id hB
  simp only [m_isWeek hi, m_isEight hj, b1_some, ne10, not_false_eq_true, if_true, Bool.false_eq_true, if_false, h1, rI_wI, show ¬ (0 = 10 ∧ 15 = ix (nI (aC a).1)) by omega, show ¬ (0 = 11 ∧ 15 = ix (nI (aC a).1)) by omega]
  have e12 : (nI (aC a).1 = (12 : Int32)) ↔ (aC a).1 = 12 := nI_eq (b := 12) (by omega) (by decide)
  simp only [e12, sClaim, bkAdd, n1, n2, or_self, if_false]
  by_cases hf : (aC a).1 = 12
  · simp only [hf, if_true, Nat.le_refl]
    exact ⟨z, rfl, h, fun _ _ => rfl⟩
  · have hl : (aC a).1 < 12 := by omega
    simp only [hf, if_false, show ¬ 12 ≤ (aC a).1 by omega, ck_pos (ib_nI (show (aC a).1 < 52 by omega) (by decide : 52 < 2 ^ 31)), nI_l1, ix_nI (show (aC a).1 < 2 ^ 31 by omega), and_self, if_true, ix_nI (show i < 2 ^ 31 by omega), ix_nI (show j < 2 ^ 31 by omega)]
    refine ⟨_, rfl, ?_, fun u hu => by simp only [rIf_wI, show ¬ u = 0 by omega, show ¬ u = 10 by omega, show ¬ u = 11 by omega, if_false]⟩
    refine h.mk' (Or.inl ⟨rfl, rfl, rfl, rfl⟩) (Or.inl ⟨by simp [rI_wI], by simp [rI_wI], by simp [rI_wI], rfl⟩) (Or.inl ⟨by simp [rI_wI], by simp [rIf_wI], by simp [rIf_wI], rfl⟩) (Or.inr ?_) (Or.inl ⟨by simp [rI_wI], by simp [rIf_wI], by simp [rIf_wI], by simp [rIf_wI], rfl⟩) (Or.inl ⟨by simp [rIf_wI], by simp [rIf_wI], by simp [rIf_wI], by simp [rIf_wI], rfl⟩) (Or.inl ⟨by simp [rI_wI], rfl⟩)
    have := hB.add hl hi hj
    simp only [rI_wI, rIf_wI, and_self, if_true, show ¬ (10 = 0) by decide, show ¬ (11 = 0) by decide, show ¬ (10 = 11) by decide, show ¬ (11 = 10) by decide, if_false]
    exact this
theorem BkM.back {c : Int32} {w p : Nat → Int32} {b : Bk} (h : BkM c w p b) : BkM (nI (b.1 - 1)) w p (bkBack b) :=
  ⟨rfl, by have := h.2.1; show b.1 - 1 ≤ 12; omega, fun i hi => h.2.2 i (by have hi : i < b.1 - 1 := hi; omega)⟩
theorem M_back {z : Sg} {a : Ab} (h : AM z a) (w : Int32) : ∃ z', f_X8_back w z = some ((sBack w a).1, z') ∧ AM z' (sBack w a).2 := by
  unfold f_X8_back
  have hH := h.2.2.2.1
  have hC := h.2.2.2.2.1
  rcases arg_cases w 2 (by decide) with hw | ⟨w, hw, rfl⟩
  · have n0 : ¬ w = 0 := by rintro rfl; rcases hw with q | q <;> revert q <;> decide
    have n1 : ¬ w = 1 := by rintro rfl; rcases hw with q | q <;> revert q <;> decide
    have e : f_X8_in w 0 1 = some 0 := m_in_bad (n := 1) (by decide) hw
    exact ⟨z, by simp [e, b1_some, sBack, n0, n1], by simp only [sBack, n0, n1, if_false]; exact h⟩
  · have e : f_X8_in (nI w) 0 1 = some 1 := m_in_nI (n := 1) (by omega) (by decide)
    have a1 := hH.2.1
    have a2 := hC.2.1
    have q0 : ∀ n : Nat, nI n - 0 = nI n := fun n => by simp
    simp only [e, b1_some, ne10, not_false_eq_true, if_true, hH.1, hC.1]
    rcases (show w = 0 ∨ w = 1 by omega) with rfl | rfl
    · simp only [nI_0, if_true, b1_some, nI_z (show (aH a).1 < 2 ^ 31 by omega), sBack, show ¬ ((0 : Int32) = 1) by decide, if_false]
      by_cases hz : (aH a).1 = 0
      · simp only [hz, if_true]; exact ⟨z, rfl, h⟩
      · simp only [hz, if_false, nI_pred' hz]
        refine ⟨_, rfl, h.mk' (Or.inl ⟨rfl, rfl, rfl, rfl⟩) (Or.inl ⟨by simp [rI_wI], by simp [rI_wI], by simp [rI_wI], rfl⟩) (Or.inr ?_) (Or.inl ⟨by simp [rI_wI], by simp [rIf_wI], by simp [rIf_wI], rfl⟩) (Or.inl ⟨by simp [rI_wI], by simp [rIf_wI], by simp [rIf_wI], by simp [rIf_wI], rfl⟩) (Or.inl ⟨by simp [rIf_wI], by simp [rIf_wI], by simp [rIf_wI], by simp [rIf_wI], rfl⟩) (Or.inl ⟨by simp [rI_wI], rfl⟩)⟩
        have := hH.back
        simp only [rI_wI, rIf_wI, and_self, if_true, show ¬ (8 = 0) by decide, show ¬ (9 = 0) by decide, show ¬ (0 = 0 ∧ 12 = 15) by decide, if_false]
        exact this
    · have n1 : nI 1 = 1 := rfl
      simp only [n1, ne10, if_false, if_true, b1_some, nI_z (show (aC a).1 < 2 ^ 31 by omega), sBack]
      by_cases hz : (aC a).1 = 0
      · simp only [hz, if_true]; exact ⟨z, rfl, h⟩
      · simp only [hz, if_false, nI_pred' hz]
        refine ⟨_, rfl, h.mk' (Or.inl ⟨rfl, rfl, rfl, rfl⟩) (Or.inl ⟨by simp [rI_wI], by simp [rI_wI], by simp [rI_wI], rfl⟩) (Or.inl ⟨by simp [rI_wI, hH.1], by simp [rIf_wI], by simp [rIf_wI], rfl⟩) (Or.inr ?_) (Or.inl ⟨by simp [rI_wI], by simp [rIf_wI], by simp [rIf_wI], by simp [rIf_wI], rfl⟩) (Or.inl ⟨by simp [rIf_wI], by simp [rIf_wI], by simp [rIf_wI], by simp [rIf_wI], rfl⟩) (Or.inl ⟨by simp [rI_wI], rfl⟩)⟩
        have := hC.back
        simp only [rI_wI, rIf_wI, and_self, if_true, show ¬ (10 = 0) by decide, show ¬ (11 = 0) by decide, true_and, show ¬ (15 = 12) by decide, if_false, hC.1, nI_pred' hz]
        exact this
theorem M_forget {z : Sg} {a : Ab} (h : AM z a) : ∃ z', f_X8_forget z = some ((sForget a).1, z') ∧ AM z' (sForget a).2 := by
  unfold f_X8_forget
  have hS := h.2.2.2.2.2.1
  refine ⟨_, by rw [hS.1]; rfl, ?_⟩
  refine h.mk' (Or.inl ⟨by simp [rIf_wI], by simp [rIf_wI], rfl, rfl⟩) (Or.inl ⟨by simp [rI_wI], by simp [rI_wI], by simp [rI_wI], rfl⟩) (Or.inl ⟨by simp [rI_wI], by simp [rIf_wI], by simp [rIf_wI], rfl⟩) (Or.inl ⟨by simp [rI_wI], by simp [rIf_wI], by simp [rIf_wI], rfl⟩) (Or.inr ?_) (Or.inl ⟨by simp [rIf_wI], by simp [rIf_wI], by simp [rIf_wI], by simp [rIf_wI], rfl⟩) (Or.inl ⟨by simp [rI_wI], rfl⟩)
  exact ⟨by simp [rI_wI]; rfl, by simp [sForget, upW], fun i hi => absurd hi (by simp [sForget, upW])⟩
theorem SnM.add {c : Int32} {w v s : Nat → Int32} {b : Sn} {i j k : Nat} (h : SnM c w v s b) (hn : b.1 < 8) (hi : i < 40) (hj : j < 8) (hk : k < 2) : SnM (nI (b.1 + 1)) (upd w b.1 (nI i)) (upd v b.1 (nI j)) (upd s b.1 (nI k)) (b.1 + 1, fup b.2.1 b.1 i, fup b.2.2.1 b.1 j, fup b.2.2.2 b.1 k) := by
  obtain ⟨h1, h2, h3⟩ := h
  refine ⟨rfl, by show b.1 + 1 ≤ 8; omega, fun q hq => ?_⟩
  have hq : q < b.1 + 1 := hq
  by_cases e : q = b.1
  · subst e; simp [upd, fup, hi, hj, hk]
  · simp only [upd, fup, e, if_false]
    exact h3 q (by omega)
theorem M_seen {z : Sg} {a : Ab} (h : AM z a) (i j k : Int32) : ∃ z', f_X8_seen i j k z = some ((sSeen i j k a).1, z') ∧ AM z' (sSeen i j k a).2 := by
  unfold f_X8_seen
  have hB := h.2.2.2.2.2.1
  rcases arg_cases i 40 (by decide) with hi | ⟨i, hi, rfl⟩
  · exact ⟨z, by simp [m_isWeek_bad hi, b1_some, sSeen, snAdd, bad, hi], by simp only [sSeen, snAdd, bad, hi, true_or, if_true]; exact h⟩
  rcases arg_cases j 8 (by decide) with hj | ⟨j, hj, rfl⟩
  · exact ⟨z, by simp [m_isWeek hi, m_isEight_bad hj, b1_some, sSeen, snAdd, bad, hj], by simp only [sSeen, snAdd, bad, hj, true_or, or_true, if_true]; exact h⟩
  rcases arg_cases k 2 (by decide) with hk | ⟨k, hk, rfl⟩
  · have e : f_X8_in k 0 1 = some 0 := m_in_bad (n := 1) (by decide) hk
    exact ⟨z, by simp [m_isWeek hi, m_isEight hj, e, b1_some, sSeen, snAdd, bad, hk], by simp only [sSeen, snAdd, bad, hk, or_true, if_true]; exact h⟩
  have e : f_X8_in (nI k) 0 1 = some 1 := m_in_nI (n := 1) (by omega) (by decide)
  have n1 := not_bad hi (by decide)
  have n2 := not_bad hj (by decide)
  have n3 := not_bad hk (by decide)
  obtain ⟨h1, h2, h3⟩ := id hB
  simp only [m_isWeek hi, m_isEight hj, e, b1_some, ne10, not_false_eq_true, if_true, Bool.false_eq_true, if_false, h1, rI_wI, show ¬ (0 = 19 ∧ 27 = ix (nI (aW a).1)) by omega, show ¬ (0 = 20 ∧ 27 = ix (nI (aW a).1)) by omega, show ¬ (0 = 21 ∧ 27 = ix (nI (aW a).1)) by omega]
  have e12 : (nI (aW a).1 = (8 : Int32)) ↔ (aW a).1 = 8 := nI_eq (b := 8) (by omega) (by decide)
  simp only [e12, sSeen, snAdd, n1, n2, n3, or_self, if_false]
  by_cases hf : (aW a).1 = 8
  · simp only [hf, if_true, Nat.le_refl]
    exact ⟨z, rfl, h⟩
  · have hl : (aW a).1 < 8 := by omega
    simp only [hf, if_false, show ¬ 8 ≤ (aW a).1 by omega, ck_pos (ib_nI hl (by decide : 8 < 2 ^ 31)), nI_l1, ix_nI (show (aW a).1 < 2 ^ 31 by omega), and_self, if_true, ix_nI (show i < 2 ^ 31 by omega), ix_nI (show j < 2 ^ 31 by omega), ix_nI (show k < 2 ^ 31 by omega)]
    refine ⟨_, rfl, h.mk' (Or.inl ⟨rfl, rfl, rfl, rfl⟩) (Or.inl ⟨by simp [rI_wI], by simp [rI_wI], by simp [rI_wI], rfl⟩) (Or.inl ⟨by simp [rI_wI], by simp [rIf_wI], by simp [rIf_wI], rfl⟩) (Or.inl ⟨by simp [rI_wI], by simp [rIf_wI], by simp [rIf_wI], rfl⟩) (Or.inr ?_) (Or.inl ⟨by simp [rIf_wI], by simp [rIf_wI], by simp [rIf_wI], by simp [rIf_wI], rfl⟩) (Or.inl ⟨by simp [rI_wI], rfl⟩)⟩
    have := hB.add hl hi hj hk
    simp only [rI_wI, rIf_wI, and_self, if_true, show ¬ (19 = 0) by decide, show ¬ (20 = 0) by decide, show ¬ (21 = 0) by decide, show ¬ (19 = 20) by decide, show ¬ (19 = 21) by decide, show ¬ (20 = 19) by decide, show ¬ (20 = 21) by decide, show ¬ (21 = 19) by decide, show ¬ (21 = 20) by decide, if_false]
    exact this
