/-! WHEN: the reference. -/
/-- changed at most behind what is told, and where the weeks are laid -/
def FW (a : Ab) (z z' : Sg) : Prop := (∀ u, u ≠ 0 → ¬ (8 ≤ u ∧ u ≤ 14) → rI z' u = rI z u) ∧ (∀ k, k ≠ 21 → k ≠ 22 → rI z' 0 k = rI z 0 k) ∧ (∀ i, i < (aH a).1 → rI z' 8 i = rI z 8 i ∧ rI z' 9 i = rI z 9 i) ∧ ∀ i, i < (aC a).1 → rI z' 10 i = rI z 10 i ∧ rI z' 11 i = rI z 11 i
theorem FW.refl (a : Ab) (z : Sg) : FW a z z := ⟨fun _ _ _ => rfl, fun _ _ _ => rfl, fun _ _ => ⟨rfl, rfl⟩, fun _ _ => ⟨rfl, rfl⟩⟩
theorem FW.trans {a : Ab} {z z' z'' : Sg} (h : FW a z z') (g : FW a z' z'') : FW a z z'' := ⟨fun u p q => (g.1 u p q).trans (h.1 u p q), fun k p q => (g.2.1 k p q).trans (h.2.1 k p q), fun i hi => ⟨(g.2.2.1 i hi).1.trans (h.2.2.1 i hi).1, (g.2.2.1 i hi).2.trans (h.2.2.1 i hi).2⟩, fun i hi => ⟨(g.2.2.2 i hi).1.trans (h.2.2.2 i hi).1, (g.2.2.2 i hi).2.trans (h.2.2.2 i hi).2⟩⟩
theorem FM.w {a : Ab} {z z' : Sg} (f : FM z z') : FW a z z' := ⟨fun u p q => f.1 u p (by omega) (by omega) (by omega), f.2, fun i _ => ⟨by rw [f.1 8 (by decide) (by decide) (by decide) (by decide)], by rw [f.1 9 (by decide) (by decide) (by decide) (by decide)]⟩, fun i _ => ⟨by rw [f.1 10 (by decide) (by decide) (by decide) (by decide)], by rw [f.1 11 (by decide) (by decide) (by decide) (by decide)]⟩⟩
theorem FW.rd {a : Ab} {z z' : Sg} {t0 t1 : Tx} (f : FW a z z') (r : RDm z t0 t1) : RDm z' t0 t1 := by
  unfold RDm at *
  rw [f.2.1 2 (by decide) (by decide), f.2.1 5 (by decide) (by decide), f.1 3 (by decide) (by decide), f.1 4 (by decide) (by decide), f.1 5 (by decide) (by decide), f.1 6 (by decide) (by decide), f.1 7 (by decide) (by decide)]
  exact r
theorem FW.am {a : Ab} {z z' : Sg} (f : FW a z z') (h : AM z a) : AM z' a := by
  have sc : ∀ k, scM k → rI z' 0 k = rI z 0 k := fun k hk => f.2.1 k (by rintro rfl; revert hk; decide) (by rintro rfl; revert hk; decide)
  have cl : ∀ u, u ≠ 0 → ¬ (8 ≤ u ∧ u ≤ 14) → rI z' u = rI z u := f.1
  refine h.mk' (Or.inl ⟨cl 1 (by decide) (by decide), cl 2 (by decide) (by decide), rfl, rfl⟩) (Or.inl ⟨sc 9 (by decide), sc 10 (by decide), sc 11 (by decide), rfl⟩) (Or.inr ⟨?_, h.2.2.2.1.2.1, fun i hi => ?_⟩) (Or.inr ⟨?_, h.2.2.2.2.1.2.1, fun i hi => ?_⟩) (Or.inl ⟨sc 27 (by decide), cl 19 (by decide) (by decide), cl 20 (by decide) (by decide), cl 21 (by decide) (by decide), rfl⟩) (Or.inl ⟨cl 22 (by decide) (by decide), cl 23 (by decide) (by decide), cl 24 (by decide) (by decide), cl 25 (by decide) (by decide), rfl⟩) (Or.inl ⟨sc 36 (by decide), rfl⟩)
  · rw [sc 12 (by decide)]; exact h.2.2.2.1.1
  · rw [(f.2.2.1 i hi).1, (f.2.2.1 i hi).2]; exact h.2.2.2.1.2.2 i hi
  · rw [sc 15 (by decide)]; exact h.2.2.2.2.1.1
  · rw [(f.2.2.2 i hi).1, (f.2.2.2 i hi).2]; exact h.2.2.2.2.1.2.2 i hi
theorem hdN_congr {t0 : Tx} {hw hv hw' hv' : Nat → Nat} {n : Nat} (h : ∀ k, k < n → hw k = hw' k ∧ hv k = hv' k) : hdN t0 hw hv n = hdN t0 hw' hv' n := by
  funext w v
  show (decide (v < nV t0) && anyB _ n) = (decide (v < nV t0) && anyB _ n)
  rw [anyB_congr (p := fun k => decide (hw k = w) && decide (hv k = v)) (q := fun k => decide (hw' k = w) && decide (hv' k = v)) n (fun k hk => by rw [(h k hk).1, (h k hk).2])]
theorem M_when_lp2 {a : Ab} {w v : Nat} (hw : w < 20) (hv : v < nV (aT0 a)) : ∀ (dd k fu : Nat) (z : Sg), k + dd = (aW a).1 → AM z a → RDm z (aT0 a) (aT1 a) → rI z 8 (aH a).1 = nI w → rI z 9 (aH a).1 = nI v → ∃ z', f_X8_whenOf_lp2 (fu + 1 + dd) (if allB (agr a w v) k then 1 else 0) (nI k) z = some (if allB (agr a w v) (aW a).1 then 1 else 0, z') ∧ AM z' a ∧ RDm z' (aT0 a) (aT1 a) ∧ rI z' 9 (aH a).1 = nI v
  | 0, k, fu, z, hk, h, r, g8, g9 => by
    obtain rfl : k = (aW a).1 := by omega
    refine ⟨z, ?_, h, r, g9⟩
    rw [show fu + 1 + 0 = fu + 1 from rfl, f_X8_whenOf_lp2, show rI z 0 27 = nI (aW a).1 from h.2.2.2.2.2.1.1, if_neg Int32.lt_irrefl, b1_some, if_neg (by decide)]
  | dd + 1, k, fu, z, hk, h, r, g8, g9 => by
    have hS := h.2.2.2.2.2.1
    have hs := h.2.2.1
    have hH := h.2.2.2.1
    have hC := h.2.2.2.2.1
    have d := h.dok
    have d1 := d.1
    have p8 : 2 ^ nV (aT0 a) ≤ 256 := Nat.pow_le_pow_right (n := 2) (by decide) d1
    have h8 := hS.2.1
    have h12 := hH.2.1
    have h12c := hC.2.1
    obtain ⟨s1, s2, s3, s4, s5, s6⟩ := hS.2.2 k (by omega)
    rw [show fu + 1 + (dd + 1) = (fu + 1 + dd) + 1 by omega, f_X8_whenOf_lp2, show rI z 0 27 = nI (aW a).1 from hS.1, if_pos (nI_lt (show k < (aW a).1 by omega) (by omega))]
    cases hA : allB (agr a w v) k with
    | false =>
      refine ⟨z, ?_, h, r, g9⟩
      rw [if_neg (show ¬ ¬ (if false = true then (1 : Int32) else 0) = 0 by decide), b1_some, if_neg (by decide), allB_f hA (aW a).1 (by omega)]
    | true =>
      have hHM : HM z (fup (aH a).2.1 (aH a).1 w) (fup (aH a).2.2 (aH a).1 v) ((aH a).1 + 1) := fun i hi => by
        unfold fup
        by_cases g : i = (aH a).1
        · rw [if_pos g, if_pos g, g]; exact ⟨g8, g9, by omega, by omega⟩
        · rw [if_neg g, if_neg g]; exact h.hm i (by omega)
      obtain ⟨z1, e1, p1, f1⟩ := m_runs (N := (aW a).2.1 k + 1) r d hs.1 hs.2.2.2.1 hs.2.2.1 hs.2.2.2.2.2.2 hs.2.2.2.2.2.1 (show (aH a).1 + 1 ≤ 52 by omega) (show (aC a).1 ≤ 52 by omega) (by omega) hHM h.cm
      have hhd : hdN (aT0 a) (fup (aH a).2.1 (aH a).1 w) (fup (aH a).2.2 (aH a).1 v) ((aH a).1 + 1) = hdU (aT0 a) (hdK (kT a)) w v := by
        rw [hdN_s, hdN_congr (hw' := (aH a).2.1) (hv' := (aH a).2.2) (fun i hi => ⟨by unfold fup; rw [if_neg (by omega)], by unfold fup; rw [if_neg (by omega)]⟩), show fup (aH a).2.1 (aH a).1 w (aH a).1 = w from if_pos rfl, show fup (aH a).2.2 (aH a).1 v (aH a).1 = v from if_pos rfl]
        rfl
      rw [hhd] at p1
      have hok : RsOK (nV (aT0 a)) ((aW a).2.1 k + 1) (rnW a w v ((aW a).2.1 k + 1)) := rn_ok (clN_ok (show (aC a).1 ≤ 52 by omega) (fun i hi => (h.cm i hi).2.2.1)) d.2.1 (fun w' v' q => by
        unfold hdU at q
        rw [Bool.or_eq_true] at q
        rcases q with q | q
        · exact hdN_lt w' v' q
        · rw [Bool.and_eq_true] at q
          exact of_decide_eq_true q.1) _ (by omega)
      have hb := m_bitsNow (t := 0) (f1.rd r) d1 (by decide) (show (aW a).2.1 k + 1 ≤ 40 by omega) hok p1
      rw [bitF_0] at hb
      have hB : bO (onS (rnW a w v ((aW a).2.1 k + 1))) (nV (aT0 a)) < 256 := Nat.lt_of_lt_of_le (bO_lt _ _) p8
      have c20 : rI z1 20 = rI z 20 := f1.1 20 (by decide) (by decide) (by decide) (by decide)
      have c21 : rI z1 21 = rI z 21 := f1.1 21 (by decide) (by decide) (by decide) (by decide)
      obtain ⟨z2, e2, h2⟩ := M_when_lp2 hw hv dd (k + 1) fu z1 (by omega) (f1.am h) (f1.rd r) (by rw [f1.1 8 (by decide) (by decide) (by decide) (by decide)]; exact g8) (by rw [f1.1 9 (by decide) (by decide) (by decide) (by decide)]; exact g9)
      refine ⟨z2, ?_, h2⟩
      rw [if_pos (show ¬ (if true = true then (1 : Int32) else 0) = 0 by decide), b1_some, if_pos rfl, ck_pos (ib_nI (show k < 8 by omega) (by decide)), ix_nI (by omega), s1, hH.1, hC.1, nI_l1, show nI ((aW a).2.1 k) = nI ((aW a).2.1 k + 1) + (-1 : Int32) from nI_m1.symm, e1, b1_some, show f_X8_bitsNow (0 : Int32) z1 = _ from hb, b1_some, ck_pos (ib_nI (show k < 8 by omega) (by decide)), ck_pos (ib_nI (show k < 8 by omega) (by decide)), c20, c21, s2, s3, bit_nI (by omega) (by omega), nI_l1, ← e2, allB_s, hA, Bool.true_and]
      have en := nI_eq (a := bO (onS (rnW a w v ((aW a).2.1 k + 1))) (nV (aT0 a)) / 2 ^ (aW a).2.2.1 k % 2) (b := (aW a).2.2.2 k) (by omega) (by omega)
      by_cases g : bO (onS (rnW a w v ((aW a).2.1 k + 1))) (nV (aT0 a)) / 2 ^ (aW a).2.2.1 k % 2 = (aW a).2.2.2 k
      · rw [if_pos (en.mpr g), b1_some, show agr a w v k = true from decide_eq_true g]; rfl
      · rw [if_neg (fun q => g (en.mp q)), b1_some, show agr a w v k = false from decide_eq_false g]; rfl
theorem M_when_lp1 {a : Ab} {v : Nat} (hv : v < nV (aT0 a)) : ∀ (dd w fu : Nat) (z : Sg), w + dd = 20 → AM z a → RDm z (aT0 a) (aT1 a) → rI z 9 (aH a).1 = nI v → ∃ z', f_X8_whenOf_lp1 (fu + 1 + dd) (nI (bO (fun w => allB (agr a w v) (aW a).1) w)) (nI w) z = some (nI (bO (fun w => allB (agr a w v) (aW a).1) 20), z') ∧ AM z' a ∧ RDm z' (aT0 a) (aT1 a)
  | 0, w, fu, z, hw, h, r, g9 => by
    obtain rfl : w = 20 := by omega
    refine ⟨z, ?_, h, r⟩
    rw [show fu + 1 + 0 = fu + 1 from rfl, f_X8_whenOf_lp1, if_neg (show ¬ nI 20 < (20 : Int32) from Int32.lt_irrefl)]
  | dd + 1, w, fu, z, hw, h, r, g9 => by
    have hH := h.2.2.2.1
    have h12 := hH.2.1
    have fw : FW a z (wI z 8 (aH a).1 (nI w)) := ⟨fun u p q => by rw [rIf_wI, if_neg (by omega)], fun k p q => by rw [rIf_wI, if_neg (by decide)], fun i hi => ⟨by rw [rI_wI, if_neg (fun t => by omega)], by rw [rIf_wI, if_neg (by decide)]⟩, fun i hi => ⟨by rw [rIf_wI, if_neg (by decide)], by rw [rIf_wI, if_neg (by decide)]⟩⟩
    have hs8 := h.2.2.2.2.2.1.2.1
    obtain ⟨z1, e1, h1, r1, g1⟩ := M_when_lp2 (w := w) (show w < 20 by omega) hv (aW a).1 0 (4095 - (aW a).1) (wI z 8 (aH a).1 (nI w)) (by omega) (fw.am h) (fw.rd r) (by rw [rI_wI, if_pos ⟨rfl, rfl⟩]) (by rw [rIf_wI, if_neg (by decide)]; exact g9)
    rw [show 4095 - (aW a).1 + 1 + (aW a).1 = 4096 by omega, nI_0, show allB (agr a w v) 0 = true from rfl, if_pos rfl] at e1
    obtain ⟨z2, e2, h2⟩ := M_when_lp1 hv dd (w + 1) fu z1 (by omega) h1 r1 g1
    refine ⟨z2, ?_, h2⟩
    rw [show fu + 1 + (dd + 1) = (fu + 1 + dd) + 1 by omega, f_X8_whenOf_lp1, if_pos (show nI w < (20 : Int32) from nI_lt (b := 20) (by omega) (by decide)), hH.1, ck_pos (ib_nI (show (aH a).1 < 52 by omega) (by decide)), ix_nI (by omega), e1, b2_some, nI_l1, ← e2, ← bO_step (p := fun w => allB (agr a w v) (aW a).1) (show w < 31 by omega)]
    cases allB (agr a w v) (aW a).1
    · rw [if_neg (show ¬ ¬ (if false = true then (1 : Int32) else 0) = 0 by decide), b1_some, if_neg (by decide), or_zero]
    · rw [if_pos (show ¬ (if true = true then (1 : Int32) else 0) = 0 by decide), b1_some, if_pos rfl]
theorem m_whenOf {z : Sg} {a : Ab} (h : AM z a) {v : Nat} (hv : v < nV (aT0 a)) : ∃ z', f_X8_whenOf (nI v) z = some (sWhen (nI v) a, z') ∧ AM z' a ∧ RDm z' (aT0 a) (aT1 a) := by
  obtain ⟨z1, e1, h1, r1, -, -⟩ := m_reads h
  have d1 := h.dok.1
  have hH := h1.2.2.2.1
  have h12 := hH.2.1
  have fw : FW a z1 (wI z1 9 (aH a).1 (nI v)) := ⟨fun u p q => by rw [rIf_wI, if_neg (by omega)], fun k p q => by rw [rIf_wI, if_neg (by decide)], fun i hi => ⟨by rw [rIf_wI, if_neg (by decide)], by rw [rI_wI, if_neg (fun t => by omega)]⟩, fun i hi => ⟨by rw [rIf_wI, if_neg (by decide)], by rw [rIf_wI, if_neg (by decide)]⟩⟩
  obtain ⟨z2, e2, h2, r2⟩ := M_when_lp1 hv 20 0 4075 (wI z1 9 (aH a).1 (nI v)) (by omega) (fw.am h1) (fw.rd r1) (by rw [rI_wI, if_pos ⟨rfl, rfl⟩])
  refine ⟨z2, ?_, h2, r2⟩
  have n1 := not_bad hv (by omega)
  unfold f_X8_whenOf sWhen
  rw [e1, b1_some, hH.1, ck_pos (ib_nI (show (aH a).1 < 52 by omega) (by decide)), ix_nI (by omega), show f_X8_whenOf_lp1 4096 0 0 (wI z1 9 (aH a).1 (nI v)) = _ from e2, b2_some, if_neg n1, ix_nI (by omega)]
theorem M_when {z : Sg} {a : Ab} (h : AM z a) (v : Int32) : ∃ z', f_X8_when v z = some (sWhen v a, z') ∧ AM z' a := by
  obtain ⟨z1, e1, h1, r1⟩ := m_isVirtue h v
  have d1 := h.dok.1
  unfold f_X8_when
  rw [e1, b2_some]
  rcases arg_cases v (nV (aT0 a)) (by omega) with hv | ⟨v, hv, rfl⟩
  · refine ⟨z1, ?_, h1⟩
    unfold sWhen
    rw [if_pos (show bad v (nV (aT0 a)) from hv), if_neg (by decide), b2_some, if_pos (show bad v (nV (aT0 a)) from hv)]
  have n1 := not_bad hv (by omega)
  obtain ⟨z', e', h', -⟩ := m_whenOf h1 hv
  refine ⟨z', ?_, h'⟩
  rw [if_neg n1, if_pos ne10, e', b2_some, b2_some]
