/-! COUNT. -/
def wor (t0 : Tx) : Nat → Nat
  | 0 => 0
  | n + 1 => wor t0 n + fgB t0.2 n
def sCount (w : Int32) (a : Ab) : Int32 :=
  if w = 0 then nI (nV (aT0 a)) else if w = 1 then nI (nC (aT1 a)) else if w = 2 then nI (aT0 a).1 else if w = 3 then nI (aT1 a).1 else if w = 4 then nI (aH a).1 else if w = 5 then nI (aC a).1 else if w = 6 then nI (aW a).1 else if w = 7 then nI (wor (aT0 a) (nV (aT0 a))) else if w = 8 then nI (aF a) else -2
section Cnt
variable {z : Sg} {t0 t1 : Tx}
theorem x_worthOfAll (r : RDx z t0 t1) (d : DOK t0 t1) : f_X2_worthOfAll z = some (nI (wor t0 (nV t0))) := by
  have d1 := d.1
  unfold f_X2_worthOfAll
  have := lp_up (fun n b i => f_X2_worthOfAll_lp1 z n b i) (nV t0) (fun i => nI (wor t0 i)) (nI (wor t0 (nV t0))) (fun n => by
    show f_X2_worthOfAll_lp1 z (n + 1) _ _ = _
    rw [f_X2_worthOfAll_lp1, r.1, if_neg Int32.lt_irrefl]) (fun n i hi => by
    show f_X2_worthOfAll_lp1 z (n + 1) _ _ = f_X2_worthOfAll_lp1 z n (nI (wor t0 i + fgB t0.2 i)) _
    rw [f_X2_worthOfAll_lp1, r.1, if_pos (nI_lt hi (by omega)), ck_pos (ib_nI (by omega) (by omega)), ix_nI (by omega), (r.2.2.1 i hi).2, nI_plus, nI_l1]) 4096 (by omega)
  rw [show f_X2_worthOfAll_lp1 z 4096 0 0 = _ from this]
  rfl
theorem m_sum_lp (r : RDm z t0 t1) (d : DOK t0 t1) : f_X8_sumOf_lp1 z 4096 0 0 = some (nI (wor t0 (nV t0))) := by
  have d1 := d.1
  exact lp_up (fun n b i => f_X8_sumOf_lp1 z n b i) (nV t0) (fun i => nI (wor t0 i)) (nI (wor t0 (nV t0))) (fun n => by
    show f_X8_sumOf_lp1 z (n + 1) _ _ = _
    rw [f_X8_sumOf_lp1, r.1, if_neg Int32.lt_irrefl]) (fun n i hi => by
    show f_X8_sumOf_lp1 z (n + 1) _ _ = f_X8_sumOf_lp1 z n (nI (wor t0 i + fgB t0.2 i)) _
    rw [f_X8_sumOf_lp1, r.1, if_pos (nI_lt hi (by omega)), ck_pos (ib_nI (by omega) (by omega)), ix_nI (by omega), (r.2.2.1 i hi).2, nI_plus, nI_l1]) 4096 (by omega)
end Cnt
theorem m_sumOf {z : Sg} {a : Ab} (h : AM z a) (w : Int32) : ∃ z', f_X8_sumOf w z = some (if w = 0 then nI (nV (aT0 a)) else if w = 1 then nI (nC (aT1 a)) else nI (wor (aT0 a) (nV (aT0 a))), z') ∧ AM z' a := by
  obtain ⟨z', e, h', r, -, -⟩ := m_reads h
  refine ⟨z', ?_, h'⟩
  unfold f_X8_sumOf
  rw [e, b1_some, m_sum_lp r h.dok, b1_some, r.1, r.2.1]
  by_cases c0 : w = 0
  · rw [if_pos c0, if_pos c0, b1_some]
  · rw [if_neg c0, if_neg c0]
    by_cases c1 : w = 1
    · rw [if_pos c1, if_pos c1, b1_some, b1_some]
    · rw [if_neg c1, if_neg c1, b1_some, b1_some]
section CntC
variable {PT : VT → KT → Prop} {PR : (Nat → Int64) → Tx → Tx → Prop}
theorem X_count {z : Sg} {a : Ab} (h : AXg PT PR z a) (w : Int32) : f_X7_count w z = some (sCount w a) := by
  obtain ⟨⟨-, -, -, x4, -, x5, -⟩, ⟨-, -, -, y4, -, y5, -⟩, -, ⟨hH, -⟩, ⟨hC, -⟩, ⟨hW, -⟩, -, hF, -⟩ := h.1
  have e7 := x_worthOfAll h.1.rd h.1.dok
  unfold f_X7_count sCount
  rw [e7, b1_some, x4, x5, y4, y5, hH, hC, hW, hF]
  simp only [← apply_ite some]
  rfl
theorem M_count {z : Sg} {a : Ab} (h : AM z a) (w : Int32) : ∃ z', f_X8_count w z = some (sCount w a, z') ∧ AM z' a := by
  have t0 := h.1.1
  have t1 := h.2.1.1
  have hH := h.2.2.2.1.1
  have hC := h.2.2.2.2.1.1
  have hW := h.2.2.2.2.2.1.1
  have hF := h.2.2.2.2.2.2.2.1
  obtain ⟨z', e, h'⟩ := m_sumOf h w
  unfold f_X8_count sCount
  by_cases c0 : w = 0
  · refine ⟨z', ?_, h'⟩
    rw [if_pos c0, if_pos c0, e, b2_some, if_pos c0]
  · rw [if_neg c0, if_neg c0]
    by_cases c1 : w = 1
    · refine ⟨z', ?_, h'⟩
      rw [if_pos c1, if_pos c1, e, b2_some, if_neg c0, if_pos c1]
    · rw [if_neg c1, if_neg c1]
      by_cases c2 : w = 2
      · subst c2
        refine ⟨z, ?_, h⟩
        rw [if_pos rfl, if_pos rfl, ck_pos (by decide), show ix ((2 : Int32) - 2) = 0 by decide, t0]
      · rw [if_neg c2, if_neg c2]
        by_cases c3 : w = 3
        · subst c3
          refine ⟨z, ?_, h⟩
          rw [if_pos rfl, if_pos rfl, ck_pos (by decide), show ix ((3 : Int32) - 2) = 1 by decide, t1]
        · rw [if_neg c3, if_neg c3]
          by_cases c4 : w = 4
          · refine ⟨z, ?_, h⟩
            rw [if_pos c4, if_pos c4, hH]
          · rw [if_neg c4, if_neg c4]
            by_cases c5 : w = 5
            · refine ⟨z, ?_, h⟩
              rw [if_pos c5, if_pos c5, hC]
            · rw [if_neg c5, if_neg c5]
              by_cases c6 : w = 6
              · refine ⟨z, ?_, h⟩
                rw [if_pos c6, if_pos c6, hW]
              · rw [if_neg c6, if_neg c6]
                by_cases c7 : w = 7
                · refine ⟨z', ?_, h'⟩
                  rw [if_pos c7, if_pos c7, e, b2_some, if_neg c0, if_neg c1]
                · rw [if_neg c7, if_neg c7]
                  refine ⟨z, ?_, h⟩
                  by_cases c8 : w = 8
                  · rw [if_pos c8, if_pos c8, hF]
                  · rw [if_neg c8, if_neg c8]
end CntC
