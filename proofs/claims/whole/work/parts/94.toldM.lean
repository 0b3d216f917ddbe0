/-! THE WEEKS TOLD: the reference's calls. -/
theorem bitF_0 (s : Rs) : bitF (nI 0) s = onS s := if_pos rfl
theorem bitF_1 (s : Rs) : bitF (nI 1) s = givS s := by unfold bitF; rw [if_neg (by decide), if_pos (show nI 1 = (1 : Int32) from rfl)]
theorem bitF_2 (s : Rs) : bitF (nI 2) s = solS s := by unfold bitF; rw [if_neg (by decide), if_neg (by decide)]
theorem m_bitsNow {z : Sg} {t0 t1 : Tx} {M w t : Nat} {s : Rs} (r : RDm z t0 t1) (d1 : nV t0 ≤ 8) (ht : t < 3) (hw : w ≤ 40) (hok : RsOK (nV t0) w s) (hP : PM z M s) : f_X8_bitsNow (nI t) z = some (nI (bO (bitF (nI t) s) (nV t0))) := by
  unfold f_X8_bitsNow
  have := lp_up (fun n b i => f_X8_bitsNow_lp1 (nI t) z n b i) (nV t0) (fun i => nI (bO (bitF (nI t) s) i)) _ (fun n => by
    show f_X8_bitsNow_lp1 (nI t) z (n + 1) _ _ = _
    rw [f_X8_bitsNow_lp1, r.1, if_neg Int32.lt_irrefl]) (fun n i hi => by
    show f_X8_bitsNow_lp1 (nI t) z (n + 1) _ _ = f_X8_bitsNow_lp1 (nI t) z n _ _
    obtain ⟨p1, p2, p3⟩ := hP.1 i (by omega)
    have hC : opI (rC s i) = -1 ↔ rC s i = none := opI_m1 (fun x hx => by have := (hok.1 i x hx).1; omega)
    have hG : opI (rG s i) = -1 ↔ rG s i = none := opI_m1 (fun x hx => by have := hok.2.2.2.1 i x hx; omega)
    have hT : opI (rT s i) = -1 ↔ rT s i = none := opI_m1 (fun x hx => by have := hok.2.2.2.2.1 i x hx; omega)
    have hx : ∃ y : Int32, (ck (ib (nI i) 8) (if rI z 12 (ix (nI i)) = (-1 : Int32) then some (-1 : Int32) else b1 (ck (ib (nI i) 8) (if rI z 13 (ix (nI i)) = (-1 : Int32) then some (0 : Int32) else b1 (ck (ib (nI i) 8) (if ¬ rI z 14 (ix (nI i)) = (-1 : Int32) then some (1 : Int32) else some (2 : Int32))) fun x16 => some x16)) fun x11 => some x11)) = some y ∧ (y = nI t ↔ bitF (nI t) s i = true) := by
      rw [ck_pos (ib_nI (show i < 8 by omega) (by decide)), ck_pos (ib_nI (show i < 8 by omega) (by decide)), ck_pos (ib_nI (show i < 8 by omega) (by decide)), ix_nI (by omega), p1, p2, p3]
      cases hc : rC s i with
      | none =>
        have g1 := hok.2.1 i hc
        have g2 := hok.2.2.1 i g1
        rw [if_pos (show opI none = -1 from rfl)]
        refine ⟨-1, rfl, ?_⟩
        rcases (show t = 0 ∨ t = 1 ∨ t = 2 by omega) with rfl | rfl | rfl
        · rw [bitF_0]; unfold onS; rw [hc, g1]; exact ⟨fun g => absurd g (by decide), fun g => by cases g⟩
        · rw [bitF_1]; unfold givS; rw [g1, g2]; exact ⟨fun g => absurd g (by decide), fun g => by cases g⟩
        · rw [bitF_2]; unfold solS; rw [g1, g2]; exact ⟨fun g => absurd g (by decide), fun g => by cases g⟩
      | some x =>
        rw [hc] at hC
        rw [if_neg (fun g => by have := hC.mp g; cases this)]
        cases hg : rG s i with
        | none =>
          have g2 := hok.2.2.1 i hg
          rw [if_pos (show opI none = -1 from rfl), b1_some]
          refine ⟨0, rfl, ?_⟩
          rcases (show t = 0 ∨ t = 1 ∨ t = 2 by omega) with rfl | rfl | rfl
          · rw [bitF_0]; unfold onS; rw [hc, hg]; exact ⟨fun _ => rfl, fun _ => rfl⟩
          · rw [bitF_1]; unfold givS; rw [hg, g2]; exact ⟨fun g => absurd g (by decide), fun g => by cases g⟩
          · rw [bitF_2]; unfold solS; rw [hg, g2]; exact ⟨fun g => absurd g (by decide), fun g => by cases g⟩
        | some y =>
          rw [hg] at hG
          rw [if_neg (fun g => by have := hG.mp g; cases this)]
          cases hq : rT s i with
          | none =>
            rw [if_neg (show ¬ ¬ opI none = -1 from fun g => g rfl), b1_some, b1_some]
            refine ⟨2, rfl, ?_⟩
            rcases (show t = 0 ∨ t = 1 ∨ t = 2 by omega) with rfl | rfl | rfl
            · rw [bitF_0]; unfold onS; rw [hc, hg]; exact ⟨fun g => absurd g (by decide), fun g => by cases g⟩
            · rw [bitF_1]; unfold givS; rw [hg, hq]; exact ⟨fun g => absurd g (by decide), fun g => by cases g⟩
            · rw [bitF_2]; unfold solS; rw [hg, hq]; exact ⟨fun _ => rfl, fun _ => rfl⟩
          | some u =>
            rw [hq] at hT
            rw [if_pos (fun g => by have := hT.mp g; cases this), b1_some, b1_some]
            refine ⟨1, rfl, ?_⟩
            rcases (show t = 0 ∨ t = 1 ∨ t = 2 by omega) with rfl | rfl | rfl
            · rw [bitF_0]; unfold onS; rw [hc, hg]; exact ⟨fun g => absurd g (by decide), fun g => by cases g⟩
            · rw [bitF_1]; unfold givS; rw [hg, hq]; exact ⟨fun _ => rfl, fun _ => rfl⟩
            · rw [bitF_2]; unfold solS; rw [hg, hq]; exact ⟨fun g => absurd g (by decide), fun g => by cases g⟩
    obtain ⟨y, e1, e2⟩ := hx
    rw [f_X8_bitsNow_lp1, r.1, if_pos (nI_lt hi (by omega)), e1, b1_some, nI_l1, ← bO_step (p := bitF (nI t) s) (show i < 31 by omega)]
    by_cases g : bitF (nI t) s i = true
    · rw [if_pos (e2.mpr g), b1_some, if_pos g]
    · rw [if_neg (fun q => g (e2.mp q)), b1_some, if_neg g, or_zero]) 4096 (by omega)
  rw [show f_X8_bitsNow_lp1 (nI t) z 4096 0 0 = _ from this, b1_some]
theorem AM.hm {z : Sg} {a : Ab} (h : AM z a) : HM z (aH a).2.1 (aH a).2.2 (aH a).1 := h.2.2.2.1.2.2
theorem AM.cm {z : Sg} {a : Ab} (h : AM z a) : CM z (aC a).2.1 (aC a).2.2 (aC a).1 := h.2.2.2.2.1.2.2
theorem m_rnok {z : Sg} {a : Ab} (h : AM z a) {n : Nat} (hn : n ≤ 40) : RsOK (nV (aT0 a)) n (rnK (kT a) n) :=
  rn_ok (t0 := aT0 a) (Hd := hdK (kT a)) (clN_ok (by have := h.2.2.2.2.1.2.1; show (aC a).1 ≤ 52; omega) (fun i hi => (h.cm i hi).2.2.1)) h.dok.2.1 (fun w v q => hdN_lt w v q) n hn
theorem m_runsTo {z : Sg} {a : Ab} (h : AM z a) {w : Nat} (hw : w < 40) : ∃ z', f_X8_runsTo (nI w) z = some z' ∧ AM z' a ∧ RDm z' (aT0 a) (aT1 a) ∧ PM z' (aC a).1 (rnK (kT a) (w + 1)) := by
  obtain ⟨z1, e1, h1, r1, -, -⟩ := m_reads h
  have hs := h1.2.2.1
  have hH := h1.2.2.2.1
  have hC := h1.2.2.2.2.1
  have g1 := hH.2.1
  have g2 := hC.2.1
  obtain ⟨z2, e2, p2, f2⟩ := m_runs (N := w + 1) r1 h.dok hs.1 hs.2.2.2.1 hs.2.2.1 hs.2.2.2.2.2.2 hs.2.2.2.2.2.1 (show (aH a).1 ≤ 52 by omega) (show (aC a).1 ≤ 52 by omega) (by omega) h1.hm h1.cm
  refine ⟨z2, ?_, f2.am h1, f2.rd r1, ?_⟩
  · unfold f_X8_runsTo
    rw [e1, b1_some, hH.1, hC.1, show nI w = nI (w + 1) + (-1 : Int32) from (nI_m1).symm, e2, b1_some]
  · have e : (if (aC a).1 < 12 then (aC a).1 else 12) = (aC a).1 := by split <;> omega
    rw [e] at p2
    exact p2
theorem m_behindOf {z : Sg} {a : Ab} (h : AM z a) {w t : Nat} (hw : w < 40) (ht : t < 3) : ∃ z', f_X8_behindOf (nI w) (nI t) z = some (nI (bO (bitF (nI t) (rnK (kT a) (w + 1))) (nV (aT0 a))), z') ∧ AM z' a ∧ RDm z' (aT0 a) (aT1 a) := by
  obtain ⟨z', e', h', r', p'⟩ := m_runsTo h hw
  refine ⟨z', ?_, h', r'⟩
  unfold f_X8_behindOf
  rw [e', b1_some, m_bitsNow r' h.dok.1 ht (show w + 1 ≤ 40 by omega) (m_rnok h (by omega)) p', b1_some]
theorem M_behind {z : Sg} {a : Ab} (h : AM z a) (w t : Int32) : ∃ z', f_X8_behind w t z = some (sBehind w t a, z') ∧ AM z' a := by
  unfold f_X8_behind sBehind
  rcases arg_cases w 40 (by decide) with hw | ⟨w, hw, rfl⟩
  · refine ⟨z, ?_, h⟩
    rw [m_isWeek_bad hw, b1_some, if_neg (by decide), b1_some, if_neg (by decide), b2_some, if_pos (Or.inl hw)]
  have n1 := not_bad hw (by decide)
  rcases arg_cases t 3 (by decide) with ht | ⟨t, ht, rfl⟩
  · have e3 : f_X8_in t 0 2 = some 0 := m_in_bad (n := 2) (by decide) ht
    refine ⟨z, ?_, h⟩
    rw [m_isWeek hw, b1_some, if_pos ne10, e3, b1_some, if_neg (by decide), b1_some, if_neg (by decide), b2_some, if_pos (Or.inr ht)]
  have e3 : f_X8_in (nI t) 0 2 = some 1 := m_in_nI (n := 2) (by omega) (by decide)
  have n2 := not_bad ht (by decide)
  obtain ⟨z', e', h', -⟩ := m_behindOf h hw ht
  refine ⟨z', ?_, h'⟩
  rw [m_isWeek hw, b1_some, if_pos ne10, e3, b1_some, if_pos ne10, b1_some, if_pos rfl, e', b2_some, b2_some, if_neg (show ¬ (bad (nI w) 40 ∨ bad (nI t) 3) from fun q => q.elim n1 n2), ix_nI (by omega)]
theorem m_goneOf {z : Sg} {a : Ab} (h : AM z a) {v t : Nat} (hv : v < nV (aT0 a)) (ht : t < 2) : ∃ z', f_X8_goneOf (nI v) (nI t) z = some (sGone (nI v) (nI t) a, z') ∧ AM z' a ∧ RDm z' (aT0 a) (aT1 a) := by
  obtain ⟨z', e', h', r', p'⟩ := m_runsTo h (w := 39) (by decide)
  have d1 := h.dok.1
  refine ⟨z', ?_, h', r'⟩
  have n1 := not_bad hv (by omega)
  have n2 := not_bad ht (by decide)
  unfold f_X8_goneOf sGone
  rw [show f_X8_runsTo (39 : Int32) z = some z' from e', b1_some, ck_pos (ib_nI (show v < 8 by omega) (by decide)), ck_pos (ib_nI (show v < 8 by omega) (by decide)), if_neg (show ¬ (bad (nI v) (nV (aT0 a)) ∨ bad (nI t) 2) from fun q => q.elim n1 n2), ix_nI (by omega), (p'.1 v (by omega)).2.2, (p'.1 v (by omega)).2.1]
  rcases (show t = 0 ∨ t = 1 by omega) with rfl | rfl
  · rw [if_pos (show nI 0 = (0 : Int32) from rfl), if_pos (show nI 0 = (0 : Int32) from rfl), b1_some]
  · rw [if_neg (show ¬ nI 1 = (0 : Int32) by decide), if_neg (show ¬ nI 1 = (0 : Int32) by decide), b1_some]
theorem M_gone {z : Sg} {a : Ab} (h : AM z a) (v t : Int32) : ∃ z', f_X8_gone v t z = some (sGone v t a, z') ∧ AM z' a := by
  obtain ⟨z1, e1, h1, r1⟩ := m_isVirtue h v
  have d1 := h.dok.1
  unfold f_X8_gone
  rw [e1, b2_some]
  rcases arg_cases v (nV (aT0 a)) (by omega) with hv | ⟨v, hv, rfl⟩
  · refine ⟨z1, ?_, h1⟩
    unfold sGone
    rw [if_pos (show bad v (nV (aT0 a)) from hv), if_neg (by decide), b2_some, if_neg (by decide), b2_some, if_pos (Or.inl hv)]
  have n1 := not_bad hv (by omega)
  rw [if_neg n1, if_pos ne10]
  rcases arg_cases t 2 (by decide) with ht | ⟨t, ht, rfl⟩
  · have e3 : f_X8_in t 0 1 = some 0 := m_in_bad (n := 1) (by decide) ht
    refine ⟨z1, ?_, h1⟩
    unfold sGone
    rw [e3, b1_some, if_neg (by decide), b2_some, if_neg (by decide), b2_some, if_pos (Or.inr ht)]
  have e3 : f_X8_in (nI t) 0 1 = some 1 := m_in_nI (n := 1) (by omega) (by decide)
  obtain ⟨z', e', h', -⟩ := m_goneOf h1 hv ht
  refine ⟨z', ?_, h'⟩
  rw [e3, b1_some, if_pos ne10, b2_some, if_pos rfl, e', b2_some, b2_some]
theorem m_emptyNow {z : Sg} {a : Ab} (h : AM z a) : ∃ z', f_X8_emptyNow z = some (sEmpty a, z') ∧ AM z' a ∧ RDm z' (aT0 a) (aT1 a) := by
  obtain ⟨z', e', h', r', p'⟩ := m_runsTo h (w := 39) (by decide)
  refine ⟨z', ?_, h', r'⟩
  unfold f_X8_emptyNow sEmpty
  rw [show f_X8_runsTo (39 : Int32) z = some z' from e', b1_some, p'.2.1]
theorem M_empty {z : Sg} {a : Ab} (h : AM z a) : ∃ z', f_X8_empty z = some (sEmpty a, z') ∧ AM z' a := by
  obtain ⟨z', e', h', -⟩ := m_emptyNow h
  exact ⟨z', by unfold f_X8_empty; rw [e', b2_some], h'⟩
theorem m_saintOf {z : Sg} {a : Ab} (h : AM z a) : ∃ z', f_X8_saintOf z = some (sSaint a, z') ∧ AM z' a ∧ RDm z' (aT0 a) (aT1 a) := by
  obtain ⟨z', e', h', r', p'⟩ := m_runsTo h (w := 39) (by decide)
  refine ⟨z', ?_, h', r'⟩
  unfold f_X8_saintOf sSaint
  rw [show f_X8_runsTo (39 : Int32) z = some z' from e', b1_some, p'.2.2]
theorem M_saint {z : Sg} {a : Ab} (h : AM z a) : ∃ z', f_X8_saint z = some (sSaint a, z') ∧ AM z' a := by
  obtain ⟨z', e', h', -⟩ := m_saintOf h
  exact ⟨z', by unfold f_X8_saint; rw [e', b2_some], h'⟩
theorem m_saleNow {z : Sg} {a : Ab} (h : AM z a) : ∃ z', f_X8_saleNow z = some (sSale a, z') ∧ AM z' a ∧ RDm z' (aT0 a) (aT1 a) := by
  obtain ⟨z', e', h', r⟩ := m_behindOf h (w := 39) (t := 2) (by decide) (by decide)
  have d := h.dok
  have d1 := d.1
  have p8 : 2 ^ nV (aT0 a) ≤ 256 := Nat.pow_le_pow_right (n := 2) (by decide) d1
  refine ⟨z', ?_, h', r⟩
  have hb2 : bitF (nI 2) (rnK (kT a) (39 + 1)) = solS (rnK (kT a) 40) := by
    unfold bitF
    rw [if_neg (by decide), if_neg (by decide)]
  rw [hb2] at e'
  have hB : bO (solS (rnK (kT a) 40)) (nV (aT0 a)) < 256 := Nat.lt_of_lt_of_le (bO_lt _ _) p8
  unfold f_X8_saleNow sSale
  rw [show f_X8_behindOf (39 : Int32) (2 : Int32) z = _ from e', b2_some]
  have := lp_up (fun n b i => f_X8_saleNow_lp1 (nI (bO (solS (rnK (kT a) 40)) (nV (aT0 a)))) z' n b i) (nV (aT0 a)) (fun i => nI (smW (aT0 a) (solS (rnK (kT a) 40)) i)) _ (fun n => by
    show f_X8_saleNow_lp1 _ z' (n + 1) _ _ = _
    rw [f_X8_saleNow_lp1, r.1, if_neg Int32.lt_irrefl]) (fun n i hi => by
    show f_X8_saleNow_lp1 _ z' (n + 1) _ _ = f_X8_saleNow_lp1 _ z' n (nI (smW (aT0 a) (solS (rnK (kT a) 40)) i + (if solS (rnK (kT a) 40) i then fgB (aT0 a).2 i else 0))) _
    rw [f_X8_saleNow_lp1, r.1, if_pos (nI_lt hi (by omega)), nI_l1, m_isIn (by omega) (by omega), b1_some, bO_test, decide_eq_true hi, Bool.true_and]
    cases solS (rnK (kT a) 40) i with
    | true => rw [if_pos rfl, if_pos rfl, if_pos ne10, ck_pos (ib_nI (show i < 9 by omega) (by decide)), ix_nI (by omega), (r.2.2.1 i hi).2, b1_some, nI_plus]
    | false => rw [if_neg (show ¬ ¬ (if false = true then (1 : Int32) else 0) = 0 by decide), b1_some, if_neg (show ¬ false = true by decide), show (0 : Int32) = nI 0 from rfl, nI_plus]) 4096 (by omega)
  rw [show f_X8_saleNow_lp1 (nI (bO (solS (rnK (kT a) 40)) (nV (aT0 a)))) z' 4096 0 0 = _ from this, b1_some]
theorem M_sale {z : Sg} {a : Ab} (h : AM z a) : ∃ z', f_X8_sale z = some (sSale a, z') ∧ AM z' a := by
  obtain ⟨z', e', h', -⟩ := m_saleNow h
  exact ⟨z', by unfold f_X8_sale; rw [e', b2_some], h'⟩
theorem M_write_lp {s m : Nat} (hs : s < 4) (hm : m ≤ 48) : ∀ (dd i fu : Nat) (z : Sg) (a : Ab), i + dd = wrN m → AM z a → (aSh a).2.2.1 s = m → ∃ z', f_X8_write_lp1 (nI s) (fu + 1 + dd) (nI i) z = some (nI (wrN m), z') ∧ AM z' (fo (wrA s) dd i a)
  | 0, i, fu, z, a, hi, h, hsz => by
    obtain rfl : i = wrN m := by omega
    have hz := (h.2.2.2.2.2.2.1 s hs).2.2.1
    refine ⟨z, ?_, h⟩
    rw [show fu + 1 + 0 = fu + 1 from rfl, f_X8_write_lp1, ck_pos (ib_nI hs (by decide)), ix_nI (by omega), hz, hsz]
    unfold wrN
    by_cases g : 40 < m
    · rw [if_pos g, if_pos (nI_lt g (by omega)), if_neg (show ¬ nI 40 < (40 : Int32) from Int32.lt_irrefl), b1_some, if_neg (by decide)]
    · rw [if_neg g, if_neg Int32.lt_irrefl, b1_some, if_neg (by decide)]
  | dd + 1, i, fu, z, a, hi, h, hsz => by
    have hz := (h.2.2.2.2.2.2.1 s hs).2.2.1
    have hlt : i < m ∧ i < 40 := by unfold wrN at hi; split at hi <;> omega
    obtain ⟨z1, e1, h1, -⟩ := m_behindOf h (t := 0) hlt.2 (by decide)
    have hb0 : bitF (nI 0) (rnK (kT a) (i + 1)) = onS (rnK (kT a) (i + 1)) := by unfold bitF; rw [if_pos (show nI 0 = (0 : Int32) from rfl)]
    rw [hb0] at e1
    have H := h1.2.2.2.2.2.2.1
    have hw : AM (wI z1 25 (48 * s + i) (narI ((aSh a).2.1 s) (nI (bO (onS (rnK (kT a) (i + 1))) (nV (aT0 a)))))) (wrA s i a) := h1.sh (H.put hs (by omega) _) (fun u hu => by rw [rIf_wI, if_neg (by omega)])
    obtain ⟨z', e', h'⟩ := M_write_lp hs hm dd (i + 1) fu _ (wrA s i a) (by omega) hw hsz
    refine ⟨z', ?_, h'⟩
    rw [show fu + 1 + (dd + 1) = (fu + 1 + dd) + 1 by omega, f_X8_write_lp1, ck_pos (ib_nI hs (by decide)), ix_nI (by omega), hz, hsz, if_pos (nI_lt hlt.1 (by omega)), if_pos (show nI i < (40 : Int32) from nI_lt (b := 40) hlt.2 (by decide)), b1_some, if_pos rfl, show f_X8_behindOf (nI i) (0 : Int32) z = _ from e1, b2_some, m_keep H hs (show i < 48 by omega), b1_some, nI_l1]
    exact e'
theorem M_write {z : Sg} {a : Ab} (h : AM z a) (s : Int32) : ∃ z', f_X8_write s z = some ((sWrite s a).1, z') ∧ AM z' (sWrite s a).2 := by
  unfold f_X8_write
  rcases arg_cases s 4 (by decide) with hs | ⟨s, hs, rfl⟩
  · exact ⟨z, by simp [m_isSheet_bad hs, b1_some, sWrite, bad, hs], by simp only [sWrite, bad, hs, if_true]; exact h⟩
  · have ns := not_bad hs (by decide)
    have H := h.2.2.2.2.2.2.1
    obtain ⟨k1, -, -, -, k5, -⟩ := H s hs
    unfold sWrite
    rw [m_isSheet hs, b1_some, if_pos ne10, ck_pos (ib_nI hs (by decide)), ix_nI (by omega), if_neg ns, k1]
    cases ht : (aSh a).1 s with
    | true =>
      rw [if_pos rfl, if_pos rfl, if_pos ne10]
      have hw40 : wrN ((aSh a).2.2.1 s) ≤ 40 := by unfold wrN; split <;> omega
      obtain ⟨z2, e2, h2⟩ := M_write_lp hs k5 (wrN ((aSh a).2.2.1 s)) 0 (4095 - wrN ((aSh a).2.2.1 s)) z a (by omega) h rfl
      rw [show 4095 - wrN ((aSh a).2.2.1 s) + 1 + wrN ((aSh a).2.2.1 s) = 4096 by omega, nI_0] at e2
      refine ⟨z2, ?_, h2⟩
      rw [e2, b2_some]
    | false =>
      rw [if_neg (show ¬ false = true by decide), if_neg (show ¬ false = true by decide), if_neg (by decide)]
      exact ⟨_, rfl, h.fnd (n := 1) (by decide)⟩
