/-! SET and SHEETS of the reference. -/
theorem m_in_cases (v lo hi : Int32) : (lo ≤ v ∧ v ≤ hi ∧ f_X8_in v lo hi = some 1) ∨ (¬ (lo ≤ v ∧ v ≤ hi) ∧ f_X8_in v lo hi = some 0) := by
  rw [m_in]
  by_cases h : lo ≤ v ∧ v ≤ hi
  · exact Or.inl ⟨h.1, h.2, by rw [if_pos h]⟩
  · exact Or.inr ⟨h, by rw [if_neg h]⟩
theorem AM.set {z : Sg} {a : Ab} {x y w : Int32} {s : Nat × Nat × Nat} (h : AM z a) (h1 : x = nI s.1) (h2 : y = nI s.2.1) (h3 : w = nI s.2.2) (g : s.1 ≤ 4 ∧ s.2.1 < 16 ∧ 1 ≤ s.2.2 ∧ s.2.2 ≤ 9) : AM (wI (wI (wI z 0 9 x) 0 10 y) 0 11 w) (upS a s) :=
  h.mk' (Or.inl ⟨by simp [rIf_wI], by simp [rIf_wI], rfl, rfl⟩) (Or.inr ⟨by simp [rI_wI]; exact h1, by simp [rI_wI]; exact h2, by simp [rI_wI]; exact h3, g⟩) (Or.inl ⟨by simp [rI_wI], by simp [rIf_wI], by simp [rIf_wI], rfl⟩) (Or.inl ⟨by simp [rI_wI], by simp [rIf_wI], by simp [rIf_wI], rfl⟩) (Or.inl ⟨by simp [rI_wI], by simp [rIf_wI], by simp [rIf_wI], by simp [rIf_wI], rfl⟩) (Or.inl ⟨by simp [rIf_wI], by simp [rIf_wI], by simp [rIf_wI], by simp [rIf_wI], rfl⟩) (Or.inl ⟨by simp [rI_wI], rfl⟩)
theorem M_set {z : Sg} {a : Ab} (h : AM z a) (w v : Int32) : ∃ z', f_X8_set w v z = some ((sSet w v a).1, z') ∧ AM z' (sSet w v a).2 := by
  unfold f_X8_set
  obtain ⟨g1, g2, g3, g4, g5, g6, g7⟩ := h.2.2.1
  rcases arg_cases w 3 (by decide) with hw | ⟨w, hw, rfl⟩
  · have n0 : ¬ w = 0 := by rintro rfl; rcases hw with q | q <;> revert q <;> decide
    have n1 : ¬ w = 1 := by rintro rfl; rcases hw with q | q <;> revert q <;> decide
    have n2 : ¬ w = 2 := by rintro rfl; rcases hw with q | q <;> revert q <;> decide
    have e : f_X8_in w 0 2 = some 0 := m_in_bad (n := 2) (by decide) hw
    exact ⟨z, by simp [e, b1_some, sSet, n0, n1, n2], by simp only [sSet, n0, n1, n2, false_and, if_false]; exact h⟩
  have e : f_X8_in (nI w) 0 2 = some 1 := m_in_nI (n := 2) (by omega) (by decide)
  rcases (show w = 0 ∨ w = 1 ∨ w = 2 by omega) with rfl | rfl | rfl
  · rw [nI_0] at e ⊢
    simp only [show ¬ ((0 : Int32) = 2) by decide, show ¬ ((0 : Int32) = 1) by decide, if_true, if_false, b1_some, e, ne10, not_false_eq_true, sSet, true_and, false_and]
    rcases m_in_cases v 0 4 with ⟨c1, c2, e2⟩ | ⟨c, e2⟩
    · simp only [e2, b1_some, ne10, not_false_eq_true, if_true, Bool.false_eq_true, if_false, c1, c2, and_self]
      obtain ⟨j, hj, rfl⟩ := nn_of c1
      have hj4 : j ≤ 4 := (nI_leI hj (by decide)).mp (show nI j ≤ nI 4 from c2)
      refine ⟨_, by rw [g1], h.set (by rw [ix_nI hj]) ?_ ?_ ⟨by rw [ix_nI hj]; exact hj4, g5, g6, g7⟩⟩
      · simp [rI_wI, g2]
      · simp [rI_wI, g3]
    · simp only [e2, b1_some, not_true, if_false, if_true, c]
      exact ⟨z, rfl, h⟩
  · have n1 : nI 1 = 1 := rfl
    rw [n1] at e ⊢
    simp only [show ¬ ((1 : Int32) = 2) by decide, ne10, if_true, if_false, b1_some, e, not_false_eq_true, sSet, true_and, false_and]
    rcases m_in_cases v 0 15 with ⟨c1, c2, e2⟩ | ⟨c, e2⟩
    · obtain ⟨j, hj, rfl⟩ := nn_of c1
      have hj4 : j ≤ 15 := (nI_leI hj (by decide)).mp (show nI j ≤ nI 15 from c2)
      have c3 : nI j < 16 := nI_lt (b := 16) (by omega) (by decide)
      simp only [e2, b1_some, ne10, not_false_eq_true, if_true, Bool.false_eq_true, if_false, c1, c3, and_self]
      refine ⟨_, by rw [g2], h.set ?_ (by rw [ix_nI hj]) ?_ ⟨g4, by rw [ix_nI hj]; show j < 16; omega, g6, g7⟩⟩
      · exact g1
      · simp [rI_wI, g3]
    · have c3 : ¬ (0 ≤ v ∧ v < 16) := by
        rintro ⟨q1, q2⟩
        obtain ⟨j, hj, rfl⟩ := nn_of q1
        have : j < 16 := (nI_ltI hj (by decide)).mp (show nI j < nI 16 from q2)
        exact c ⟨q1, nI_le (b := 15) (by omega) (by decide)⟩
      simp only [e2, b1_some, not_true, if_false, if_true, c3]
      exact ⟨z, rfl, h⟩
  · have n1 : nI 2 = 2 := rfl
    rw [n1] at e ⊢
    simp only [show ¬ ((2 : Int32) = 0) by decide, show ¬ ((2 : Int32) = 1) by decide, ne10, if_true, if_false, b1_some, e, not_false_eq_true, sSet, true_and, false_and]
    rcases m_in_cases v 1 9 with ⟨c1, c2, e2⟩ | ⟨c, e2⟩
    · simp only [e2, b1_some, ne10, not_false_eq_true, if_true, Bool.false_eq_true, if_false, c1, c2, and_self]
      obtain ⟨j, hj, rfl⟩ := nn_of (Int32.le_trans (by decide) c1)
      have hj1 : 1 ≤ j := (nI_leI (by decide) hj).mp (show nI 1 ≤ nI j from c1)
      have hj4 : j ≤ 9 := (nI_leI hj (by decide)).mp (show nI j ≤ nI 9 from c2)
      refine ⟨_, by rw [g3], h.set ?_ ?_ (by rw [ix_nI hj]) ⟨g4, g5, by rw [ix_nI hj]; exact hj1, by rw [ix_nI hj]; exact hj4⟩⟩
      · exact g1
      · simp [rI_wI, g2]
    · simp only [e2, b1_some, not_true, if_false, if_true, c]
      exact ⟨z, rfl, h⟩
theorem AM.fnd {z : Sg} {a : Ab} (h : AM z a) {n : Nat} (hn : n ≤ 5) : AM (wI z 0 36 (nI n)) (upF a n) :=
  h.mk' (Or.inl ⟨by simp [rIf_wI], by simp [rIf_wI], rfl, rfl⟩) (Or.inl ⟨by simp [rI_wI], by simp [rI_wI], by simp [rI_wI], rfl⟩) (Or.inl ⟨by simp [rI_wI], by simp [rIf_wI], by simp [rIf_wI], rfl⟩) (Or.inl ⟨by simp [rI_wI], by simp [rIf_wI], by simp [rIf_wI], rfl⟩) (Or.inl ⟨by simp [rI_wI], by simp [rIf_wI], by simp [rIf_wI], by simp [rIf_wI], rfl⟩) (Or.inl ⟨by simp [rIf_wI], by simp [rIf_wI], by simp [rIf_wI], by simp [rIf_wI], rfl⟩) (Or.inr ⟨by simp [rI_wI, upF], hn⟩)
/-- a change of sheets alone -/
theorem AM.sh {z z' : Sg} {a : Ab} {h' : Shs} (h : AM z a) (hS : ShM (rI z' 22) (rI z' 23) (rI z' 24) (rI z' 25) h') (hf : ∀ u, u < 22 → rI z' u = rI z u) : AM z' (upSh a h') :=
  h.mk' (Or.inl ⟨hf 1 (by omega), hf 2 (by omega), rfl, rfl⟩) (Or.inl ⟨by rw [hf 0 (by omega)], by rw [hf 0 (by omega)], by rw [hf 0 (by omega)], rfl⟩) (Or.inl ⟨by rw [hf 0 (by omega)], hf 8 (by omega), hf 9 (by omega), rfl⟩) (Or.inl ⟨by rw [hf 0 (by omega)], hf 10 (by omega), hf 11 (by omega), rfl⟩) (Or.inl ⟨by rw [hf 0 (by omega)], hf 19 (by omega), hf 20 (by omega), hf 21 (by omega), rfl⟩) (Or.inr hS) (Or.inl ⟨by rw [hf 0 (by omega)], rfl⟩)
theorem nI_mul (a b : Nat) : nI a * nI b = nI (a * b) := pk_mul a b
theorem m48 (s i : Nat) : (48 : Int32) * nI s + nI i = nI (48 * s + i) := by
  show nI 48 * nI s + nI i = _
  rw [nI_mul, nI_add]
theorem M_sheet_lp {s : Nat} (hs : s < 4) (z : Sg) : ∃ z', f_X8_sheet_lp1 (nI s) 4096 0 z = some z' ∧ (∀ u, u ≠ 25 → rI z' u = rI z u) ∧ (∀ q, rI z' 25 q = if 48 * s ≤ q ∧ q < 48 * s + 48 then 0 else rI z 25 q) := by
  have key := lp_fo (fun m i z => f_X8_sheet_lp1 (nI s) m i z) 48 (fun i z => wI z 25 (48 * s + i) 0) (fun z => z) (fun k z' => (∀ u, u ≠ 25 → rI z' u = rI z u) ∧ (∀ q, rI z' 25 q = if 48 * s ≤ q ∧ q < 48 * s + k then 0 else rI z 25 q)) (fun m z' _ => by
    show f_X8_sheet_lp1 (nI s) (m + 1) (nI 48) z' = some z'
    rw [f_X8_sheet_lp1, if_neg (show ¬ nI 48 < (48 : Int32) from Int32.lt_irrefl)]) (fun m i z' hi hP => ⟨by
    show f_X8_sheet_lp1 (nI s) (m + 1) (nI i) z' = f_X8_sheet_lp1 (nI s) m (nI (i + 1)) (wI z' 25 (48 * s + i) 0)
    rw [f_X8_sheet_lp1, if_pos (show nI i < (48 : Int32) from nI_lt (b := 48) hi (by decide)), m48, ck_pos (ib_nI (show 48 * s + i < 192 by omega) (by decide)), nI_l1, ix_nI (by omega)], ⟨fun u hu => by rw [rIf_wI, if_neg hu]; exact hP.1 u hu, fun q => by
      rw [rI_wI, hP.2]
      by_cases e : q = 48 * s + i
      · subst e; simp
      · by_cases c : 48 * s ≤ q ∧ q < 48 * s + i
        · rw [if_neg (by simp [e]), if_pos c, if_pos (by omega)]
        · rw [if_neg (by simp [e]), if_neg c, if_neg (by omega)]⟩⟩) 48 0 4096 z (by omega) (by decide) ⟨fun _ _ => rfl, fun q => by rw [if_neg (by omega)]⟩
  exact ⟨_, key.1, key.2⟩
theorem ShM.set {th fo sz it th' fo' sz' it' : Nat → Int32} {h h' : Shs} {s : Nat} (H : ShM th fo sz it h) (hs : s < 4) (ho : ∀ q, q ≠ s → h'.1 q = h.1 q ∧ h'.2.1 q = h.2.1 q ∧ h'.2.2.1 q = h.2.2.1 q ∧ ∀ i, h'.2.2.2 q i = h.2.2.2 q i) (hf : ∀ q, q ≠ s → th' q = th q ∧ fo' q = fo q ∧ sz' q = sz q ∧ ∀ i, i < 48 → it' (48 * q + i) = it (48 * q + i))
    (hq : th' s = (if h'.1 s then 1 else 0) ∧ fo' s = nI (h'.2.1 s) ∧ sz' s = nI (h'.2.2.1 s) ∧ h'.2.1 s < 3 ∧ h'.2.2.1 s ≤ 48 ∧ ∀ i, i < 48 → it' (48 * s + i) = h'.2.2.2 s i) : ShM th' fo' sz' it' h' := by
  intro q hq4
  by_cases e : q = s
  · subst e; exact hq
  · obtain ⟨o1, o2, o3, o4⟩ := ho q e
    obtain ⟨f1, f2, f3, f4⟩ := hf q e
    obtain ⟨k1, k2, k3, k4, k5, k6⟩ := H q hq4
    rw [f1, f2, f3, o1, o2, o3]
    exact ⟨k1, k2, k3, k4, k5, fun i hi => by rw [o4, f4 i hi]; exact k6 i hi⟩
theorem m_meets (n : Nat) (z : Sg) : f_X8_meets (nI n) z = some (-10 - nI n, wI z 0 36 (nI n)) := rfl
theorem M_sheet {z : Sg} {a : Ab} (h : AM z a) (s f n : Int32) : ∃ z', f_X8_sheet s f n z = some ((sSheet s f n a).1, z') ∧ AM z' (sSheet s f n a).2 := by
  unfold f_X8_sheet
  rcases arg_cases s 4 (by decide) with hs | ⟨s, hs, rfl⟩
  · exact ⟨z, by simp [m_isSheet_bad hs, b1_some, sSheet, bad, hs], by simp only [sSheet, bad, hs, true_or, if_true]; exact h⟩
  have ns := not_bad hs (by decide)
  rcases arg_cases f 3 (by decide) with hf | ⟨f, hf, rfl⟩
  · have e3 : f_X8_in f 0 2 = some 0 := m_in_bad (n := 2) (by decide) hf
    exact ⟨z, by simp [m_isSheet hs, e3, b1_some, sSheet, bad, hf], by simp only [sSheet, bad, hf, true_or, or_true, if_true]; exact h⟩
  have e3 : f_X8_in (nI f) 0 2 = some 1 := m_in_nI (n := 2) (by omega) (by decide)
  have nf := not_bad hf (by decide)
  simp only [m_isSheet hs, e3, b1_some, ne10, not_false_eq_true, if_true]
  by_cases hn : (48 : Int32) < n
  · exact ⟨z, by simp only [hn, if_true, b1_some, sSheet, show nI 48 < n from hn, or_true], by simp only [sSheet, show nI 48 < n from hn, or_true, if_true]; exact h⟩
  have hn' : ¬ nI 48 < n := hn
  simp only [hn, if_false, b1_some, Bool.false_eq_true]
  by_cases h0 : n < 0
  · simp only [h0, if_true, sSheet, ns, nf, hn', or_self, if_false]
    exact ⟨_, rfl, h.fnd (by decide)⟩
  obtain ⟨m, hm, rfl⟩ := nI_of h0
  have hm48 : m ≤ 48 := by
    rcases Nat.lt_or_ge 48 m with q | q
    · exact absurd (nI_lt q hm) hn'
    · exact q
  simp only [h0, if_false, ck_pos (ib_nI hs (by decide : 4 < 2 ^ 31)), ix_nI (show s < 2 ^ 31 by omega), sSheet, ns, nf, hn', or_self, ix_nI (show f < 2 ^ 31 by omega), ix_nI hm]
  obtain ⟨z', e4, g1, g2⟩ := M_sheet_lp hs (wI (wI (wI z 22 s 1) 23 s (nI f)) 24 s (nI m))
  refine ⟨z', by rw [e4]; rfl, ?_⟩
  refine h.sh (h.2.2.2.2.2.2.1.set hs (fun q hq => by simp [shNew, fup, hq]) (fun q hq => ⟨?_, ?_, ?_, fun i hi => ?_⟩) ⟨?_, ?_, ?_, ?_, ?_, fun i hi => ?_⟩) (fun u hu => by rw [g1 u (by omega)]; simp only [rIf_wI, show ¬ u = 22 by omega, show ¬ u = 23 by omega, show ¬ u = 24 by omega, if_false])
  · rw [g1 _ (by omega)]; simp [rI_wI, hq]
  · rw [g1 _ (by omega)]; simp [rI_wI, hq]
  · rw [g1 _ (by omega)]; simp [rI_wI, hq]
  · rw [g2, if_neg (by omega)]; simp [rI_wI]
  · rw [g1 _ (by omega)]; simp [rI_wI, shNew]
  · rw [g1 _ (by omega)]; simp [rI_wI, shNew, fup]
  · rw [g1 _ (by omega)]; simp [rI_wI, shNew, fup]
  · simp [shNew, fup, hf]
  · simp [shNew, fup, hm48]
  · rw [g2, if_pos (by omega)]; simp [shNew]
theorem sh_th {th fo sz it : Nat → Int32} {h : Shs} (H : ShM th fo sz it h) {s : Nat} (hs : s < 4) : (¬ th s = 0) ↔ h.1 s = true := by
  rw [(H s hs).1]
  cases h.1 s <;> simp
theorem M_lose {z : Sg} {a : Ab} (h : AM z a) (s : Int32) : ∃ z', f_X8_lose s z = some ((sLose s a).1, z') ∧ AM z' (sLose s a).2 := by
  unfold f_X8_lose
  rcases arg_cases s 4 (by decide) with hs | ⟨s, hs, rfl⟩
  · exact ⟨z, by simp [m_isSheet_bad hs, b1_some, sLose, bad, hs], by simp only [sLose, bad, hs, if_true]; exact h⟩
  have ns := not_bad hs (by decide)
  have H := h.2.2.2.2.2.2.1
  obtain ⟨k1, k2, k3, k4, k5, k6⟩ := H s hs
  simp only [m_isSheet hs, b1_some, ne10, not_false_eq_true, if_true, ck_pos (ib_nI hs (by decide : 4 < 2 ^ 31)), ix_nI (show s < 2 ^ 31 by omega), sh_th H hs, sLose, ns, if_false, rI_wI, show ¬ (24 = 22 ∧ s = s) by omega, k3]
  cases ht : (aSh a).1 s with
  | true =>
    simp only [if_true]
    refine ⟨_, rfl, ?_⟩
    refine h.sh (H.set hs (fun q hq => by simp [shLose, hq]) (fun q hq => ⟨?_, ?_, ?_, fun i hi => ?_⟩) ⟨?_, ?_, ?_, k4, k5, fun i hi => ?_⟩) (fun u hu => by rw [rIf_wI, if_neg (by omega)])
    · simp [rI_wI, hq]
    · simp [rI_wI]
    · simp [rI_wI]
    · simp [rI_wI]
    · simp [rI_wI, shLose]
    · simp [rI_wI, k2, shLose]
    · simp [rI_wI, k3, shLose]
    · rw [rI_wI, if_neg (by omega)]; exact k6 i hi
  | false =>
    simp only [Bool.false_eq_true, if_false]
    exact ⟨_, rfl, h.fnd (by decide)⟩
