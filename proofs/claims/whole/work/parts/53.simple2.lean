/-! The class's state with what it keeps (PT: of the weeks told, PR: of rows), and the reference's; simple calls. -/
/-- what is kept of the weeks, in cells -/
abbrev VT : Type := (Nat → Int32) × (Nat → Int32) × (Nat → Int32) × (Nat → Int32) × (Nat → Int32) × (Nat → Int32) × (Nat → Int64)
def vT (z : Sg) : VT := (rI z 20, rI z 26, rI z 27, rI z 28, rI z 29, rI z 30, rJ z 20)
abbrev KT : Type := Tx × Tx × Nat × Nat × Bk × Bk
def kT (a : Ab) : KT := (aT0 a, aT1 a, aE a, aK a, aH a, aC a)
def AXg (PT : VT → KT → Prop) (PR : (Nat → Int64) → Tx → Tx → Prop) (z : Sg) (a : Ab) : Prop :=
  AX0 z a ∧ (rI z 0 10 = 0 ∨ (rI z 0 10 = 1 ∧ PT (vT z) (kT a))) ∧ (rI z 0 11 = 0 ∨ (rI z 0 11 = 1 ∧ PR (rJ z 42) (aT0 a) (aT1 a)))
theorem vT_of {z z' : Sg} (h : ∀ u, 20 ≤ u → u ≤ 30 → rI z' u = rI z u) (hj : z'.2 = z.2) : vT z' = vT z := by
  unfold vT
  rw [h 20 (by omega) (by omega), h 26 (by omega) (by omega), h 27 (by omega) (by omega), h 28 (by omega) (by omega), h 29 (by omega) (by omega), h 30 (by omega) (by omega), show rJ z' 20 = rJ z 20 by unfold rJ; rw [hj]]
theorem rJ_of {z z' : Sg} (hj : z'.2 = z.2) (t : Nat) : rJ z' t = rJ z t := by unfold rJ; rw [hj]
section Simple
variable {PT : VT → KT → Prop} {PR : (Nat → Int64) → Tx → Tx → Prop}
/-- the told weeks don't stand any more; the rows do as they did -/
theorem AXg.cut {z z' : Sg} {a a' : Ab} (h : AXg PT PR z a) (h0 : AX0 z' a') (h10 : rI z' 0 10 = 0) (h11 : rI z' 0 11 = rI z 0 11) (hj : rJ z' 42 = rJ z 42) (e0 : aT0 a' = aT0 a) (e1 : aT1 a' = aT1 a) : AXg PT PR z' a' := by
  refine ⟨h0, Or.inl h10, ?_⟩
  rw [h11, hj, e0, e1]
  exact h.2.2
theorem AXg.keep {z z' : Sg} {a a' : Ab} (h : AXg PT PR z a) (h0 : AX0 z' a') (h10 : rI z' 0 10 = rI z 0 10) (h11 : rI z' 0 11 = rI z 0 11) (hv : vT z' = vT z) (hj : rJ z' 42 = rJ z 42) (ek : kT a' = kT a) : AXg PT PR z' a' := by
  refine ⟨h0, ?_, ?_⟩
  · rw [h10, hv, ek]
    exact h.2.1
  · rw [h11, hj, show aT0 a' = aT0 a from congrArg (fun k => k.1) ek, show aT1 a' = aT1 a from congrArg (fun k => k.2.1) ek]
    exact h.2.2
def upH (a : Ab) (b : Bk) : Ab := (a.1, a.2.1, a.2.2.1, b, a.2.2.2.2)
def upC (a : Ab) (b : Bk) : Ab := (a.1, a.2.1, a.2.2.1, a.2.2.2.1, b, a.2.2.2.2.2)
def upW (a : Ab) (b : Sn) : Ab := (a.1, a.2.1, a.2.2.1, a.2.2.2.1, a.2.2.2.2.1, b, a.2.2.2.2.2.2)
def upSh (a : Ab) (b : Shs) : Ab := (a.1, a.2.1, a.2.2.1, a.2.2.2.1, a.2.2.2.2.1, a.2.2.2.2.2.1, b, a.2.2.2.2.2.2.2)
def upF (a : Ab) (n : Nat) : Ab := (a.1, a.2.1, a.2.2.1, a.2.2.2.1, a.2.2.2.2.1, a.2.2.2.2.2.1, a.2.2.2.2.2.2.1, n)
def upS (a : Ab) (s : Nat × Nat × Nat) : Ab := (a.1, a.2.1, s, a.2.2.2)
def sHanding (i j : Int32) (a : Ab) : Int32 × Ab := ((bkAdd i j (aH a)).1, upH a (bkAdd i j (aH a)).2)
def sClaim (i j : Int32) (a : Ab) : Int32 × Ab := ((bkAdd i j (aC a)).1, upC a (bkAdd i j (aC a)).2)
theorem cut0 (z : Sg) (u : Nat) (h : u ≠ 0) : rI (wI z 0 10 0) u = rI z u := by rw [rIf_wI, if_neg h]
theorem X_handing {z : Sg} {a : Ab} (h : AXg PT PR z a) (i j : Int32) : ∃ z', f_X7_handing i j z = some ((sHanding i j a).1, z') ∧ AXg PT PR z' (sHanding i j a).2 := by
  have hb : BkX (rI (wI z 0 10 0) 10) (rI (wI z 0 10 0) (10 + 1)) (rI (wI z 0 10 0) (10 + 2)) (aH a) := by
    rw [cut0 z _ (by decide), cut0 z _ (by decide), cut0 z _ (by decide)]; exact h.1.2.2.2.1
  obtain ⟨z', e, hB, hf, hj⟩ := X0_add hb i j
  refine ⟨z', by unfold f_X7_handing; rw [e]; rfl, ?_⟩
  have hfr : ∀ u, u ≠ 0 → u ≠ 10 → u ≠ 11 → u ≠ 12 → rI z' u = rI z u := fun u h0 h1 h2 h3 => (hf u h1 h2 h3).trans (cut0 z u h0)
  have hz : rI z' 0 = rI (wI z 0 10 0) 0 := hf 0 (by decide) (by decide) (by decide)
  refine h.cut (h.1.mk' (Or.inl ⟨fun u _ _ => hfr u (by omega) (by omega) (by omega) (by omega), rfl⟩) (Or.inl ⟨fun u _ _ => hfr u (by omega) (by omega) (by omega) (by omega), rfl⟩) (Or.inl ⟨hfr 9 (by omega) (by omega) (by omega) (by omega), rfl⟩) (Or.inr hB) (Or.inl ⟨fun u _ _ => hfr u (by omega) (by omega) (by omega) (by omega), rfl⟩) (Or.inl ⟨fun u _ _ => hfr u (by omega) (by omega) (by omega) (by omega), rfl⟩) (Or.inl ⟨fun u _ _ => hfr u (by omega) (by omega) (by omega) (by omega), rfl⟩) (Or.inl ⟨by rw [hz]; simp [rI_wI], rfl⟩)) (by rw [hz]; simp [rI_wI]) (by rw [hz]; simp [rI_wI]) (rJ_of (hj.trans rfl) 42) rfl rfl
theorem X_claim {z : Sg} {a : Ab} (h : AXg PT PR z a) (i j : Int32) : ∃ z', f_X7_claim i j z = some ((sClaim i j a).1, z') ∧ AXg PT PR z' (sClaim i j a).2 ∧ (∀ u, 16 ≤ u → rI z' u = rI z u) := by
  have hb : BkX (rI (wI z 0 10 0) 13) (rI (wI z 0 10 0) (13 + 1)) (rI (wI z 0 10 0) (13 + 2)) (aC a) := by
    rw [cut0 z _ (by decide), cut0 z _ (by decide), cut0 z _ (by decide)]; exact h.1.2.2.2.2.1
  obtain ⟨z', e, hB, hf, hj⟩ := X0_add hb i j
  have hfr : ∀ u, u ≠ 0 → u ≠ 13 → u ≠ 14 → u ≠ 15 → rI z' u = rI z u := fun u h0 h1 h2 h3 => (hf u h1 h2 h3).trans (cut0 z u h0)
  refine ⟨z', by unfold f_X7_claim; rw [e]; rfl, ?_, fun u hu => hfr u (by omega) (by omega) (by omega) (by omega)⟩
  have hz : rI z' 0 = rI (wI z 0 10 0) 0 := hf 0 (by decide) (by decide) (by decide)
  refine h.cut (h.1.mk' (Or.inl ⟨fun u _ _ => hfr u (by omega) (by omega) (by omega) (by omega), rfl⟩) (Or.inl ⟨fun u _ _ => hfr u (by omega) (by omega) (by omega) (by omega), rfl⟩) (Or.inl ⟨hfr 9 (by omega) (by omega) (by omega) (by omega), rfl⟩) (Or.inl ⟨fun u _ _ => hfr u (by omega) (by omega) (by omega) (by omega), rfl⟩) (Or.inr hB) (Or.inl ⟨fun u _ _ => hfr u (by omega) (by omega) (by omega) (by omega), rfl⟩) (Or.inl ⟨fun u _ _ => hfr u (by omega) (by omega) (by omega) (by omega), rfl⟩) (Or.inl ⟨by rw [hz]; simp [rI_wI], rfl⟩)) (by rw [hz]; simp [rI_wI]) (by rw [hz]; simp [rI_wI]) (rJ_of (hj.trans rfl) 42) rfl rfl
/-- the last of a book undone -/
def bkBack (b : Bk) : Bk := (b.1 - 1, b.2.1, b.2.2)
theorem BkX.back {o w p : Nat → Int32} {b : Bk} (h : BkX o w p b) : BkX (upd o 2 (nI (b.1 - 1))) w p (bkBack b) :=
  ⟨by simp [upd, bkBack], by have := h.2.1; show b.1 - 1 ≤ 12; omega, fun i hi => h.2.2 i (by have hi : i < b.1 - 1 := hi; omega)⟩
def sBack (w : Int32) (a : Ab) : Int32 × Ab := if w = 0 then (if (aH a).1 = 0 then (-3, a) else (nI ((aH a).1 - 1), upH a (bkBack (aH a)))) else if w = 1 then (if (aC a).1 = 0 then (-3, a) else (nI ((aC a).1 - 1), upC a (bkBack (aC a)))) else (-2, a)
theorem nI_pred' {n : Nat} (h : n ≠ 0) : nI n - 1 = nI (n - 1) := by
  obtain ⟨m, rfl⟩ : ∃ m, n = m + 1 := ⟨n - 1, by omega⟩
  exact nI_pred m
theorem nI_z {n : Nat} (h : n < 2 ^ 31) : nI n = 0 ↔ n = 0 := nI_eq h (by decide)
theorem X_back {z : Sg} {a : Ab} (h : AXg PT PR z a) (w : Int32) : ∃ z', f_X7_back w z = some ((sBack w a).1, z') ∧ AXg PT PR z' (sBack w a).2 := by
  unfold f_X7_back
  rw [show (2 : Int32) = nI 2 from rfl]
  rcases arg_cases w 2 (by decide) with hw | ⟨w, hw, rfl⟩
  · have n0 : ¬ w = 0 := by rintro rfl; rcases hw with q | q <;> revert q <;> decide
    have n1 : ¬ w = 1 := by rintro rfl; rcases hw with q | q <;> revert q <;> decide
    exact ⟨z, by simp [x_out_bad hw, b1_some, sBack, n0, n1]; rfl, by simp only [sBack, n0, n1, if_false]; exact h⟩
  · rw [x_out_nI hw (by decide)]
    have hH := h.1.2.2.2.1
    have hC := h.1.2.2.2.2.1
    rcases (show w = 0 ∨ w = 1 by omega) with rfl | rfl
    · have e1 : rI z 10 2 = nI (aH a).1 := hH.1
      have b1' := hH.2.1
      simp only [b1_some, not_true, if_false, nI_0, if_true, ck_pos kX_10, e1, nI_z (show (aH a).1 < 2 ^ 31 by omega)]
      by_cases hz : (aH a).1 = 0
      · exact ⟨z, by simp [sBack, hz], by simp only [sBack, hz, if_true]; exact h⟩
      · refine ⟨wI (wI z 0 10 0) 10 2 (nI ((aH a).1 - 1)), ?_, ?_⟩
        · simp only [hz, if_false, sBack, if_true, rI_wI, e1, nI_pred' hz, show ¬ (10 = 0 ∧ 2 = 10) by omega]; rfl
        · simp only [sBack, hz, if_true, if_false]
          have hfr : ∀ u, u ≠ 0 → u ≠ 10 → rI (wI (wI z 0 10 0) 10 2 (nI ((aH a).1 - 1))) u = rI z u := fun u h0 h1 => by rw [rIf_wI, if_neg h1, cut0 z u h0]
          refine h.cut (h.1.mk' (Or.inl ⟨fun u _ _ => hfr u (by omega) (by omega), rfl⟩) (Or.inl ⟨fun u _ _ => hfr u (by omega) (by omega), rfl⟩) (Or.inl ⟨hfr 9 (by omega) (by omega), rfl⟩) (Or.inr ?_) (Or.inl ⟨fun u _ _ => hfr u (by omega) (by omega), rfl⟩) (Or.inl ⟨fun u _ _ => hfr u (by omega) (by omega), rfl⟩) (Or.inl ⟨fun u _ _ => hfr u (by omega) (by omega), rfl⟩) (Or.inl ⟨by simp [rI_wI], rfl⟩)) (by simp [rI_wI]) (by simp [rI_wI]) rfl rfl rfl
          rw [hfr 11 (by omega) (by omega), hfr 12 (by omega) (by omega), rIf_wI, if_pos rfl, cut0 z 10 (by omega)]
          exact hH.back
    · have e1 : rI z 13 2 = nI (aC a).1 := hC.1
      have b1' := hC.2.1
      have n10 : ¬ nI 1 = 0 := by decide
      simp only [b1_some, not_true, if_false, n10, ck_pos kX_13, e1, nI_z (show (aC a).1 < 2 ^ 31 by omega)]
      have n1 : nI 1 = 1 := rfl
      by_cases hz : (aC a).1 = 0
      · exact ⟨z, by simp [sBack, hz, n10, n1], by simp only [sBack, hz, if_true, n10, n1, if_false]; exact h⟩
      · refine ⟨wI (wI z 0 10 0) 13 2 (nI ((aC a).1 - 1)), ?_, ?_⟩
        · simp only [hz, if_false, sBack, n10, n1, if_true, rI_wI, e1, nI_pred' hz, show ¬ (13 = 0 ∧ 2 = 10) by omega]; rfl
        · simp only [sBack, hz, n10, n1, if_true, if_false]
          have hfr : ∀ u, u ≠ 0 → u ≠ 13 → rI (wI (wI z 0 10 0) 13 2 (nI ((aC a).1 - 1))) u = rI z u := fun u h0 h1 => by rw [rIf_wI, if_neg h1, cut0 z u h0]
          refine h.cut (h.1.mk' (Or.inl ⟨fun u _ _ => hfr u (by omega) (by omega), rfl⟩) (Or.inl ⟨fun u _ _ => hfr u (by omega) (by omega), rfl⟩) (Or.inl ⟨hfr 9 (by omega) (by omega), rfl⟩) (Or.inl ⟨fun u _ _ => hfr u (by omega) (by omega), rfl⟩) (Or.inr ?_) (Or.inl ⟨fun u _ _ => hfr u (by omega) (by omega), rfl⟩) (Or.inl ⟨fun u _ _ => hfr u (by omega) (by omega), rfl⟩) (Or.inl ⟨by simp [rI_wI], rfl⟩)) (by simp [rI_wI]) (by simp [rI_wI]) rfl rfl rfl
          rw [hfr 14 (by omega) (by omega), hfr 15 (by omega) (by omega), rIf_wI, if_pos rfl, cut0 z 13 (by omega)]
          exact hC.back
theorem dec_bad {w v : Int32} (h : ¬ (w = 0 ∧ 0 ≤ v ∧ v ≤ 4)) : (if w = 0 then if 0 ≤ v then if v ≤ (4 : Int32) then some true else some false else some false else some false) = some false := by
  by_cases h1 : w = 0
  · by_cases h2 : 0 ≤ v
    · by_cases h3 : v ≤ 4
      · exact absurd ⟨h1, h2, h3⟩ h
      · simp [h1, h2, h3]
    · simp [h1, h2]
  · simp [h1]
def sSet (w v : Int32) (a : Ab) : Int32 × Ab := if w = 0 ∧ 0 ≤ v ∧ v ≤ 4 then (nI (aE a), upS a (ix v, aS a, aK a)) else if w = 1 ∧ 0 ≤ v ∧ v < 16 then (nI (aS a), upS a (aE a, ix v, aK a)) else if w = 2 ∧ 1 ≤ v ∧ v ≤ 9 then (nI (aK a), upS a (aE a, aS a, ix v)) else (-2, a)
theorem and3b (p q r : Prop) [Decidable p] [Decidable q] [Decidable r] : (if p then if q then if r then some true else some false else some false else some false) = some (decide (p ∧ q ∧ r)) := by
  by_cases h1 : p <;> by_cases h2 : q <;> by_cases h3 : r <;> simp [h1, h2, h3]
theorem nn_of {v : Int32} (h : 0 ≤ v) : ∃ j : Nat, j < 2 ^ 31 ∧ v = nI j := nI_of (Int32.not_lt.mpr h)
theorem set_fr {z : Sg} {k : Nat} {v : Int32} : ∀ u, u ≠ 0 → u ≠ 9 → rI (wI (wI z 9 k v) 0 10 0) u = rI z u := fun u h0 h1 => by rw [rIf_wI, if_neg h0, rIf_wI, if_neg h1]
theorem AXg.set {z : Sg} {a : Ab} {k : Nat} {v : Int32} {s : Nat × Nat × Nat} (h : AXg PT PR z a) (hs : StX (upd (rI z 9) k v) s.1 s.2.1 s.2.2) : AXg PT PR (wI (wI z 9 k v) 0 10 0) (upS a s) := by
  refine h.cut (h.1.mk' (Or.inl ⟨fun u _ _ => set_fr u (by omega) (by omega), rfl⟩) (Or.inl ⟨fun u _ _ => set_fr u (by omega) (by omega), rfl⟩) (Or.inr ?_) (Or.inl ⟨fun u _ _ => set_fr u (by omega) (by omega), rfl⟩) (Or.inl ⟨fun u _ _ => set_fr u (by omega) (by omega), rfl⟩) (Or.inl ⟨fun u _ _ => set_fr u (by omega) (by omega), rfl⟩) (Or.inl ⟨fun u _ _ => set_fr u (by omega) (by omega), rfl⟩) (Or.inl ⟨by simp [rI_wI], rfl⟩)) (by simp [rI_wI]) (by simp [rI_wI]) rfl rfl rfl
  rw [rIf_wI, if_neg (by omega), rIf_wI, if_pos rfl]
  exact hs
theorem X_set {z : Sg} {a : Ab} (h : AXg PT PR z a) (w v : Int32) : ∃ z', f_X7_set w v z = some ((sSet w v a).1, z') ∧ AXg PT PR z' (sSet w v a).2 := by
  unfold f_X7_set
  simp only [and3b, b1_some, decide_eq_true_eq]
  obtain ⟨g1, g2, g3, g4, g5, g6, g7⟩ := h.1.2.2.1
  by_cases c0 : w = 0 ∧ 0 ≤ v ∧ v ≤ 4
  · simp only [sSet, c0, if_true, and_self]
    obtain ⟨j, hj, rfl⟩ := nn_of c0.2.1
    have hj4 : j ≤ 4 := (nI_leI hj (by decide)).mp (show nI j ≤ nI 4 from c0.2.2)
    refine ⟨_, by rw [g1], h.set ⟨?_, ?_, ?_, ?_, g5, g6, g7⟩⟩
    · simp [upd, ix_nI hj]
    · simp [upd, g2]
    · simp [upd, g3]
    · rw [ix_nI hj]; exact hj4
  · by_cases c1 : w = 1 ∧ 0 ≤ v ∧ v < 16
    · simp only [sSet, c0, c1, if_true, if_false, and_self]
      obtain ⟨j, hj, rfl⟩ := nn_of c1.2.1
      have hj4 : j < 16 := (nI_ltI hj (by decide)).mp (show nI j < nI 16 from c1.2.2)
      simp only [show ¬ ((1 : Int32) = 0) by decide, false_and, if_false]
      refine ⟨_, by rw [g2], h.set ⟨?_, ?_, ?_, g4, ?_, g6, g7⟩⟩
      · simp [upd, g1]
      · simp [upd, ix_nI hj]
      · simp [upd, g3]
      · rw [ix_nI hj]; exact hj4
    · by_cases c2 : w = 2 ∧ 1 ≤ v ∧ v ≤ 9
      · simp only [sSet, c0, c1, c2, if_true, if_false, and_self]
        obtain ⟨j, hj, rfl⟩ := nn_of (Int32.le_trans (by decide) c2.2.1)
        have hj1 : 1 ≤ j := (nI_leI (by decide) hj).mp (show nI 1 ≤ nI j from c2.2.1)
        have hj4 : j ≤ 9 := (nI_leI hj (by decide)).mp (show nI j ≤ nI 9 from c2.2.2)
        simp only [show ¬ ((2 : Int32) = 0) by decide, show ¬ ((2 : Int32) = 1) by decide, false_and, if_false]
        refine ⟨_, by rw [g3], h.set ⟨?_, ?_, ?_, g4, g5, ?_, ?_⟩⟩
        · simp [upd, g1]
        · simp [upd, g2]
        · simp [upd, ix_nI hj]
        · rw [ix_nI hj]; exact hj1
        · rw [ix_nI hj]; exact hj4
      · simp only [sSet, c0, c1, c2, if_false]
        exact ⟨z, rfl, h⟩
end Simple
