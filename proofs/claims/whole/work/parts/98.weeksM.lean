/-! WEEKS: the reference. -/
theorem eqv_bit {s s' : Rs} (h : eqv s s') (t : Int32) : bitF t s = bitF t s' := by
  have h1 : givS s = givS s' := by funext v; unfold givS; rw [h.2.1, h.2.2]
  have h2 : solS s = solS s' := by funext v; unfold solS; rw [h.2.1, h.2.2]
  unfold bitF
  rw [eqv_on h, h1, h2]
theorem m_lots_lp {a : Ab} {x : Int32} {n : Nat} (hn : n ≤ 40) (h0 : 0 < nV (aT0 a)) (h1 : 0 < nC (aT1 a)) : ∀ (dd w fu : Nat) (z : Sg), w + dd = n → AM z a → RDm z (aT0 a) (aT1 a) → HM z (apf (aH a).2.1 (aH a).1 id) (apf (aH a).2.2 (aH a).1 (lvS x (nV (aT0 a)))) ((aH a).1 + w) → CM z (apf (aC a).2.1 (aC a).1 id) (apf (aC a).2.2 (aC a).1 (lcS x (nC (aT1 a)))) ((aC a).1 + w) → ∃ z' y, f_X8_weeksOf_lp1 (nI n) (fu + 1 + dd) (sd x w) (nI ((aH a).1 + w)) (nI ((aC a).1 + w)) (nI w) z = some (y, nI ((aH a).1 + n), nI ((aC a).1 + n), z') ∧ AM z' a ∧ RDm z' (aT0 a) (aT1 a) ∧ HM z' (apf (aH a).2.1 (aH a).1 id) (apf (aH a).2.2 (aH a).1 (lvS x (nV (aT0 a)))) ((aH a).1 + n) ∧ CM z' (apf (aC a).2.1 (aC a).1 id) (apf (aC a).2.2 (aC a).1 (lcS x (nC (aT1 a)))) ((aC a).1 + n)
  | 0, w, fu, z, hw, h, r, hH, hC => by
    obtain rfl : w = n := by omega
    refine ⟨z, sd x w, ?_, h, r, hH, hC⟩
    rw [show fu + 1 + 0 = fu + 1 from rfl, f_X8_weeksOf_lp1, if_neg Int32.lt_irrefl, b1_some, if_neg (by decide)]
  | dd + 1, w, fu, z, hw, h, r, hH, hC => by
    have d := h.dok
    have d1 := d.1
    have d2 := d.2.1
    have g1 := h.2.2.2.1.2.1
    have g2 := h.2.2.2.2.1.2.1
    obtain ⟨v1, v2⟩ := draw_lt (x := sdN (sd x w)) h0 d1
    obtain ⟨c1, c2⟩ := draw_lt (x := sdN (sdN (sd x w))) h1 d2
    have hv8 : lvS x (nV (aT0 a)) w < 8 := by unfold lvS; omega
    have hc8 : lcS x (nC (aT1 a)) w < 8 := by unfold lcS; omega
    have fI : ∀ u, u ≠ 8 → u ≠ 9 → u ≠ 10 → u ≠ 11 → rI (wI (wI (wI (wI z 8 ((aH a).1 + w) (nI w)) 9 ((aH a).1 + w) (nI (lvS x (nV (aT0 a)) w))) 10 ((aC a).1 + w) (nI w)) 11 ((aC a).1 + w) (nI (lcS x (nC (aT1 a)) w))) u = rI z u := fun u q1 q2 q3 q4 => by rw [rIf_wI, if_neg q4, rIf_wI, if_neg q3, rIf_wI, if_neg q2, rIf_wI, if_neg q1]
    have f8 : ∀ i, rI (wI (wI (wI (wI z 8 ((aH a).1 + w) (nI w)) 9 ((aH a).1 + w) (nI (lvS x (nV (aT0 a)) w))) 10 ((aC a).1 + w) (nI w)) 11 ((aC a).1 + w) (nI (lcS x (nC (aT1 a)) w))) 8 i = if i = (aH a).1 + w then nI w else rI z 8 i := fun i => by
      rw [rIf_wI, if_neg (by decide), rIf_wI, if_neg (by decide), rIf_wI, if_neg (by decide), rI_wI]
      simp
    have f9 : ∀ i, rI (wI (wI (wI (wI z 8 ((aH a).1 + w) (nI w)) 9 ((aH a).1 + w) (nI (lvS x (nV (aT0 a)) w))) 10 ((aC a).1 + w) (nI w)) 11 ((aC a).1 + w) (nI (lcS x (nC (aT1 a)) w))) 9 i = if i = (aH a).1 + w then nI (lvS x (nV (aT0 a)) w) else rI z 9 i := fun i => by
      rw [rIf_wI, if_neg (by decide), rIf_wI, if_neg (by decide), rI_wI, rIf_wI, if_neg (show ¬ 9 = 8 by decide)]
      simp
    have f10 : ∀ i, rI (wI (wI (wI (wI z 8 ((aH a).1 + w) (nI w)) 9 ((aH a).1 + w) (nI (lvS x (nV (aT0 a)) w))) 10 ((aC a).1 + w) (nI w)) 11 ((aC a).1 + w) (nI (lcS x (nC (aT1 a)) w))) 10 i = if i = (aC a).1 + w then nI w else rI z 10 i := fun i => by
      rw [rIf_wI, if_neg (by decide), rI_wI, rIf_wI, if_neg (show ¬ 10 = 9 by decide), rIf_wI, if_neg (show ¬ 10 = 8 by decide)]
      simp
    have f11 : ∀ i, rI (wI (wI (wI (wI z 8 ((aH a).1 + w) (nI w)) 9 ((aH a).1 + w) (nI (lvS x (nV (aT0 a)) w))) 10 ((aC a).1 + w) (nI w)) 11 ((aC a).1 + w) (nI (lcS x (nC (aT1 a)) w))) 11 i = if i = (aC a).1 + w then nI (lcS x (nC (aT1 a)) w) else rI z 11 i := fun i => by
      rw [rI_wI, rIf_wI, if_neg (show ¬ 11 = 10 by decide), rIf_wI, if_neg (show ¬ 11 = 9 by decide), rIf_wI, if_neg (show ¬ 11 = 8 by decide)]
      simp
    have fw : FW a z (wI (wI (wI (wI z 8 ((aH a).1 + w) (nI w)) 9 ((aH a).1 + w) (nI (lvS x (nV (aT0 a)) w))) 10 ((aC a).1 + w) (nI w)) 11 ((aC a).1 + w) (nI (lcS x (nC (aT1 a)) w))) := ⟨fun u p q => fI u (by omega) (by omega) (by omega) (by omega), fun k _ _ => by rw [fI 0 (by decide) (by decide) (by decide) (by decide)], fun i hi => ⟨by rw [f8, if_neg (by omega)], by rw [f9, if_neg (by omega)]⟩, fun i hi => ⟨by rw [f10, if_neg (by omega)], by rw [f11, if_neg (by omega)]⟩⟩
    obtain ⟨z3, y, e3, h3⟩ := m_lots_lp hn h0 h1 dd (w + 1) fu _ (by omega) (fw.am h) (fw.rd r) (fun i hi => by
      rw [f8, f9]
      by_cases g : i = (aH a).1 + w
      · rw [if_pos g, if_pos g, apf_r (by omega), apf_r (by omega), show i - (aH a).1 = w by omega]
        exact ⟨rfl, rfl, by show w < 40; omega, hv8⟩
      · rw [if_neg g, if_neg g]; exact hH i (by omega)) (fun i hi => by
      rw [f10, f11]
      by_cases g : i = (aC a).1 + w
      · rw [if_pos g, if_pos g, apf_r (by omega), apf_r (by omega), show i - (aC a).1 = w by omega]
        exact ⟨rfl, rfl, by show w < 40; omega, hc8⟩
      · rw [if_neg g, if_neg g]; exact hC i (by omega))
    refine ⟨z3, y, ?_, h3⟩
    have a1 : rI (wI z 8 ((aH a).1 + w) (nI w)) 0 2 = nI (nV (aT0 a)) := by rw [rIf_wI, if_neg (by decide)]; exact r.1
    have a2 : rI (wI (wI (wI z 8 ((aH a).1 + w) (nI w)) 9 ((aH a).1 + w) (nI (lvS x (nV (aT0 a)) w))) 10 ((aC a).1 + w) (nI w)) 0 5 = nI (nC (aT1 a)) := by rw [rIf_wI, if_neg (by decide), rIf_wI, if_neg (by decide), rIf_wI, if_neg (by decide)]; exact r.2.1
    have es : (1103515245 : Int32) * sd x w + (12345 : Int32) = sdN (sd x w) := rfl
    have es2 : (1103515245 : Int32) * sdN (sd x w) + (12345 : Int32) = sdN (sdN (sd x w)) := rfl
    rw [show fu + 1 + (dd + 1) = (fu + 1 + dd) + 1 by omega, f_X8_weeksOf_lp1, if_pos (nI_lt (show w < n by omega) (by omega)), r.1, r.2.1, if_pos (show (0 : Int32) < nI (nV (aT0 a)) from nI_lt (a := 0) h0 (by omega)), if_pos (show (0 : Int32) < nI (nC (aT1 a)) from nI_lt (a := 0) h1 (by omega)), b1_some, if_pos rfl, ck_pos (ib_nI (show (aH a).1 + w < 52 by omega) (by decide)), ix_nI (show (aH a).1 + w < 2 ^ 31 by omega), ix_nI (show (aC a).1 + w < 2 ^ 31 by omega), a1, ck_pos (nI_ne0 h0 (by omega)), ck_pos (ib_nI (show (aH a).1 + w < 52 by omega) (by decide)), ck_pos (ib_nI (show (aC a).1 + w < 52 by omega) (by decide)), es, es2, v2, show ix (jrem (jushr (sdN (sd x w)) 16) (nI (nV (aT0 a)))) = lvS x (nV (aT0 a)) w from rfl, a2, ck_pos (nI_ne0 h1 (by omega)), ck_pos (ib_nI (show (aC a).1 + w < 52 by omega) (by decide)), c2, show ix (jrem (jushr (sdN (sdN (sd x w))) 16) (nI (nC (aT1 a)))) = lcS x (nC (aT1 a)) w from rfl, nI_l1, nI_l1, nI_l1]
    exact e3
theorem m_weeksOf {z : Sg} {a : Ab} (h : AM z a) (x : Int32) {n t : Nat} (hn1 : 1 ≤ n) (hn : n ≤ 40) (ht : t < 2) : ∃ z', f_X8_weeksOf x (nI n) (nI t) z = some (nI (pc8 (bO (bitF (nI t + 1) (rnL a x n)) (nV (aT0 a)))), z') ∧ AM z' a ∧ RDm z' (aT0 a) (aT1 a) := by
  obtain ⟨z1, e1, h1, r1, -, -⟩ := m_reads h
  have d := h.dok
  have d1 := d.1
  have hs := h1.2.2.1
  have hH := h1.2.2.2.1
  have hC := h1.2.2.2.2.1
  have g1 := hH.2.1
  have g2 := hC.2.1
  have p8 : 2 ^ nV (aT0 a) ≤ 256 := Nat.pow_le_pow_right (n := 2) (by decide) d1
  have hB : ∀ p : Nat → Bool, bO p (nV (aT0 a)) < 256 := fun p => Nat.lt_of_lt_of_le (bO_lt _ _) p8
  unfold f_X8_weeksOf
  rw [e1, b1_some, hH.1, hC.1, show nI t + (1 : Int32) = nI (t + 1) from nI_1 t]
  by_cases g : nV (aT0 a) = 0 ∨ nC (aT1 a) = 0
  · obtain ⟨z2, e2, p2, f2⟩ := m_runs (N := n) r1 d hs.1 hs.2.2.2.1 hs.2.2.1 hs.2.2.2.2.2.2 hs.2.2.2.2.2.1 (show (aH a).1 ≤ 52 by omega) (show (aC a).1 ≤ 52 by omega) hn h1.hm h1.cm
    have hb := m_bitsNow (t := t + 1) (f2.rd r1) d1 (by omega) hn (m_rnok h (n := n) hn) p2
    refine ⟨z2, ?_, f2.am h1, f2.rd r1⟩
    have el : f_X8_weeksOf_lp1 (nI n) 4096 x (nI (aH a).1) (nI (aC a).1) 0 z1 = some (x, nI (aH a).1, nI (aC a).1, z1) := by
      rw [f_X8_weeksOf_lp1, r1.1, r1.2.1]
      have : (if (0 : Int32) < nI n then if (0 : Int32) < nI (nV (aT0 a)) then if (0 : Int32) < nI (nC (aT1 a)) then some true else some false else some false else some false) = some false := by
        rw [if_pos (show (0 : Int32) < nI n from nI_lt (a := 0) (by omega) (by omega))]
        by_cases g0 : nV (aT0 a) = 0
        · rw [g0, if_neg (show ¬ (0 : Int32) < nI 0 by decide)]
        · rw [if_pos (show (0 : Int32) < nI (nV (aT0 a)) from nI_lt (a := 0) (by omega) (by omega)), g.resolve_left g0, if_neg (show ¬ (0 : Int32) < nI 0 by decide)]
      rw [this, b1_some, if_neg (by decide)]
    rw [el, b4_some, Int32.sub_eq_add_neg, e2, b1_some, hb, b1_some, m_ones (by have := hB (bitF (nI (t + 1)) (rnK (kT a) n)); omega), b1_some, rnL_told g]
  · have g0 : ¬ nV (aT0 a) = 0 := fun q => g (Or.inl q)
    have g0' : ¬ nC (aT1 a) = 0 := fun q => g (Or.inr q)
    obtain ⟨z2, y, e2, h2, r2, H2, C2⟩ := m_lots_lp (x := x) hn (by omega) (by omega) n 0 (4095 - n) z1 (by omega) h1 r1 (fun i hi => by rw [apf_l (by omega), apf_l (by omega)]; exact h1.hm i (by omega)) (fun i hi => by rw [apf_l (by omega), apf_l (by omega)]; exact h1.cm i (by omega))
    rw [show 4095 - n + 1 + n = 4096 by omega, nI_0, Nat.add_zero, Nat.add_zero, show sd x 0 = x from rfl] at e2
    have hs2 := h2.2.2.1
    obtain ⟨z3, e3, p3, f3⟩ := m_runs (N := n) r2 d hs2.1 hs2.2.2.2.1 hs2.2.2.1 hs2.2.2.2.2.2.2 hs2.2.2.2.2.2.1 (show (aH a).1 + n ≤ 52 by omega) (show (aC a).1 + n ≤ 52 by omega) hn H2 C2
    have hok := rn_ok (t0 := aT0 a) (e := aE a) (kp := aK a) (Hd := hdN (aT0 a) (apf (aH a).2.1 (aH a).1 id) (apf (aH a).2.2 (aH a).1 (lvS x (nV (aT0 a)))) ((aH a).1 + n)) (clN_ok (t1 := aT1 a) (co := apf (aC a).2.2 (aC a).1 (lcS x (nC (aT1 a)))) (show (aC a).1 + n ≤ 52 by omega) (fun i hi => (C2 i hi).2.2.1)) d.2.1 (fun w v q => hdN_lt w v q) n hn
    have hb := m_bitsNow (t := t + 1) (f3.rd r2) d1 (by omega) hn hok p3
    have he := eqv_rn (cw := (aC a).2.1) (co := (aC a).2.2) (lc := lcS x (nC (aT1 a))) (m := (aC a).1) (t1 := aT1 a) (t0 := aT0 a) (e := aE a) (kp := aK a) (Hd := hdN (aT0 a) (apf (aH a).2.1 (aH a).1 id) (apf (aH a).2.2 (aH a).1 (lvS x (nV (aT0 a)))) ((aH a).1 + n)) g2 hn (fun w _ => (draw_lt (x := sdN (sdN (sd x w))) (by omega) d.2.1).1) n (Nat.le_refl _)
    rw [← rnL_lots g] at he
    rw [← eqv_bit he] at hb
    refine ⟨z3, ?_, f3.am h2, f3.rd r2⟩
    rw [e2, b4_some, Int32.sub_eq_add_neg, e3, b1_some, hb, b1_some, m_ones (by have := hB (bitF (nI (t + 1)) (rnL a x n)); omega), b1_some]
theorem M_weeks {z : Sg} {a : Ab} (h : AM z a) (x n t : Int32) : ∃ z', f_X8_weeks x n t z = some (sWeeks x n t a, z') ∧ AM z' a := by
  unfold f_X8_weeks sWeeks
  by_cases c : n < 1 ∨ 40 < n
  · refine ⟨z, ?_, h⟩
    have e0 : f_X8_in n 1 40 = some 0 := by
      rw [m_in, if_neg]
      rintro ⟨q1, q2⟩
      rcases c with c | c
      · exact Int32.not_le.mpr c q1
      · exact Int32.not_le.mpr c q2
    rw [e0, b1_some, if_neg (by decide), b1_some, if_neg (by decide), b2_some, if_pos (c.elim Or.inl (fun q => Or.inr (Or.inl q)))]
  have c1 : ¬ n < 1 := fun q => c (Or.inl q)
  have c2 : ¬ 40 < n := fun q => c (Or.inr q)
  have e0 : f_X8_in n 1 40 = some 1 := by rw [m_in, if_pos ⟨Int32.not_lt.mp c1, Int32.not_lt.mp c2⟩]
  rcases arg_cases t 2 (by decide) with ht | ⟨t, ht, rfl⟩
  · have e3 : f_X8_in t 0 1 = some 0 := m_in_bad (n := 1) (by decide) ht
    refine ⟨z, ?_, h⟩
    rw [e0, b1_some, if_pos ne10, e3, b1_some, if_neg (by decide), b1_some, if_neg (by decide), b2_some, if_pos (Or.inr (Or.inr ht))]
  have e3 : f_X8_in (nI t) 0 1 = some 1 := m_in_nI (n := 1) (by omega) (by decide)
  have n2 := not_bad ht (by decide)
  obtain ⟨n, hn, rfl⟩ := nI_of (x := n) (fun q => c1 (Int32.lt_trans q (by decide)))
  have hn1 : 1 ≤ n := by
    rcases Nat.lt_or_ge n 1 with q | q
    · exact absurd (show nI n < (1 : Int32) from nI_lt (b := 1) q (by decide)) c1
    · exact q
  have hn40 : n ≤ 40 := by
    rcases Nat.lt_or_ge 40 n with q | q
    · exact absurd (show (40 : Int32) < nI n from nI_lt (a := 40) q hn) c2
    · exact q
  obtain ⟨z', e', h', -⟩ := m_weeksOf h x hn1 hn40 ht
  refine ⟨z', ?_, h'⟩
  rw [e0, b1_some, if_pos ne10, e3, b1_some, if_pos ne10, b1_some, if_pos rfl, e', b2_some, b2_some, if_neg (show ¬ (nI n < 1 ∨ 40 < nI n ∨ bad (nI t) 2) from fun q => q.elim c1 (fun q => q.elim c2 n2)), ix_nI hn]
