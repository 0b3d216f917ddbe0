/-! THE WEEKS TOLD: the class's calls. -/
def hdK (k : KT) : Nat → Nat → Bool := hdN k.1 k.2.2.2.2.1.2.1 k.2.2.2.2.1.2.2 k.2.2.2.2.1.1
def clK (k : KT) : Nat → Option (Nat × Nat) := clN k.2.1 k.2.2.2.2.2.2.1 k.2.2.2.2.2.2.2 k.2.2.2.2.2.1
/-- the weeks told, the first n -/
def rnK (k : KT) (n : Nat) : Rs := rn k.1 k.2.1 k.2.2.1 k.2.2.2.1 (hdK k) (clK k) n
/-- what the class keeps of them -/
def PTt (v : VT) (k : KT) : Prop := v.1 14 = nI (bO (solS (rnK k 40)) (nV k.1)) ∧ v.1 16 = opI (rS (rnK k 40)) ∧ v.2.2.2.2.2.2 15 = lN (bO (rV (rnK k 40)) 52) ∧ (∀ u, u < 8 → v.2.2.2.2.1 u = opI (rT (rnK k 40) u) ∧ v.2.2.2.2.2.1 u = opI (rG (rnK k 40) u)) ∧ ∀ x, x < 40 → v.2.1 x = nI (bO (onS (rnK k (x + 1))) (nV k.1)) ∧ v.2.2.1 x = nI (bO (givS (rnK k (x + 1))) (nV k.1)) ∧ v.2.2.2.1 x = nI (bO (solS (rnK k (x + 1))) (nV k.1))
theorem hdN_lt {t0 : Tx} {hw hv : Nat → Nat} {n : Nat} (w v : Nat) (q : hdN t0 hw hv n w v = true) : v < nV t0 := by
  unfold hdN at q
  rw [Bool.and_eq_true] at q
  exact of_decide_eq_true q.1
theorem clK_ok {z : Sg} {a : Ab} (h : AX0 z a) : ClOK (aT1 a) (clK (kT a)) := clN_ok (by have := h.2.2.2.2.1.2.1; show (aC a).1 ≤ 52; omega) (fun i hi => (h.2.2.2.2.1.2.2 i hi).2.2.1)
theorem x_toldRun {z : Sg} {a : Ab} (h : AXg PTt PRr z a) : ∃ z', f_X7_toldRun z = some (20, z') ∧ AXg PTt PRr z' a ∧ PTt (vT z') (kT a) ∧ rI z' 0 10 = 1 := by
  unfold f_X7_toldRun
  rcases h.2.1 with h10 | ⟨h10, hp⟩
  · have d := h.1.dok
    have hst := h.1.2.2.1
    obtain ⟨z1, e1, l1, f1, k1, j1⟩ := x_load (t := 20) (by decide) h.1
    have r1 : RDx z1 (aT0 a) (aT1 a) := h.1.rd.fr (fun u hu => f1 u (by omega))
    obtain ⟨z2, e2, p2, b2', f2⟩ := x_play (kp := aK a) (N := 40) (by decide) r1 d (by rw [f1 9 (by omega)]; exact hst.2.2.1) hst.2.2.2.2.2.2 hst.2.2.2.2.2.1 (clK_ok h.1) (fun w v q => hdN_lt w v q) l1 (by have := h.1.2.2.2.2.1.2.1; omega) (Nat.le_refl _)
    have fr : ∀ u, u ≠ 0 → ¬ (20 ≤ u ∧ u ≤ 30) → rI (wI z2 0 10 1) u = rI z u := fun u h0 hu => by rw [rIf_wI, if_neg h0, f2.1 u hu, f1 u (by omega)]
    have fr0 : ∀ k, k ≠ 10 → rI (wI z2 0 10 1) 0 k = rI z 0 k := fun k hk => by rw [rI_wI, if_neg (fun t => hk t.2), f2.1 0 (by omega), f1 0 (by omega)]
    have fI : ∀ u, u ≠ 0 → rI (wI z2 0 10 1) u = rI z2 u := fun u h0 => by rw [rIf_wI, if_neg h0]
    have hP : PTt (vT (wI z2 0 10 1)) (kT a) := by
      refine ⟨?_, ?_, ?_, fun u hu => ?_, fun x hx => ?_⟩
      · show rI (wI z2 0 10 1) 20 14 = _
        rw [fI 20 (by decide)]; exact p2.2.2.2.1
      · show rI (wI z2 0 10 1) 20 16 = _
        rw [fI 20 (by decide)]; exact p2.2.2.2.2.2.1
      · exact p2.2.2.2.2.1
      · show rI (wI z2 0 10 1) 29 u = _ ∧ rI (wI z2 0 10 1) 30 u = _
        rw [fI 29 (by decide), fI 30 (by decide)]; exact p2.2.2.2.2.2.2.1 u hu
      · show rI (wI z2 0 10 1) 26 x = _ ∧ rI (wI z2 0 10 1) 27 x = _ ∧ rI (wI z2 0 10 1) 28 x = _
        rw [fI 26 (by decide), fI 27 (by decide), fI 28 (by decide)]; exact b2' x hx
    refine ⟨wI z2 0 10 1, ?_, ⟨h.1.fr (fun u h1 h2 => fr u (by omega) (by omega)) (fr0 12 (by decide)), Or.inr ⟨by rw [rI_wI, if_pos ⟨rfl, rfl⟩], hP⟩, ?_⟩, hP, by rw [rI_wI, if_pos ⟨rfl, rfl⟩]⟩
    · rw [h10, if_neg (by simp), e1, b1_some, show (39 : Int32) = nI 40 + (-1 : Int32) by decide +kernel, e2, b1_some, b1_some]
    · rw [fr0 11 (by decide)]
      have hJ : rJ (wI z2 0 10 1) 42 = rJ z 42 := by
        funext q
        rw [rJ_wI, f2.2.2.2 42 q (fun t => absurd t.1 (by decide)), rJ_of j1]
      rw [hJ]
      exact h.2.2
  · rw [h10, if_pos ne10, b1_some]
    exact ⟨z, rfl, h, hp, h10⟩
theorem kX_20' : kd false 20 = KX4 := rfl
def bitF (w : Int32) (s : Rs) : Nat → Bool := if w = 0 then onS s else if w = 1 then givS s else solS s
def sBehind (w t : Int32) (a : Ab) : Int32 := if bad w 40 ∨ bad t 3 then -2 else nI (bO (bitF t (rnK (kT a) (ix w + 1))) (nV (aT0 a)))
theorem X_behind {z : Sg} {a : Ab} (h : AXg PTt PRr z a) (w t : Int32) : ∃ z', f_X7_behind w t z = some (sBehind w t a, z') ∧ AXg PTt PRr z' a := by
  unfold f_X7_behind sBehind
  rcases arg_cases w 40 (by decide) with hw | ⟨w, hw, rfl⟩
  · have e : f_X7_outside w 40 = some 1 := x_out_bad (n := 40) hw
    refine ⟨z, ?_, h⟩
    rw [e, b1_some, if_pos ne10, b1_some, if_pos rfl, if_pos (Or.inl hw)]
  have e : f_X7_outside (nI w) 40 = some 0 := x_out_nI (n := 40) hw (by decide)
  have n1 := not_bad hw (by decide)
  rcases arg_cases t 3 (by decide) with ht | ⟨t, ht, rfl⟩
  · have e3 : f_X7_outside t 3 = some 1 := x_out_bad (n := 3) ht
    refine ⟨z, ?_, h⟩
    rw [e, b1_some, if_neg (by decide), e3, b1_some, if_pos ne10, b1_some, if_pos rfl, if_pos (Or.inr ht)]
  have e3 : f_X7_outside (nI t) 3 = some 0 := x_out_nI (n := 3) ht (by decide)
  have n2 := not_bad ht (by decide)
  obtain ⟨z', e', h', hp, -⟩ := x_toldRun h
  obtain ⟨b1', b2', b3'⟩ := hp.2.2.2.2 w hw
  refine ⟨z', ?_, h'⟩
  rw [e, b1_some, if_neg (by decide), e3, b1_some, if_neg (by decide), b1_some, if_neg (by decide), e', b2_some, ck_pos kX_20', if_neg (show ¬ (bad (nI w) 40 ∨ bad (nI t) 3) from fun q => q.elim n1 n2), ck_pos (ib_nI hw (by decide)), ck_pos (ib_nI hw (by decide)), ck_pos (ib_nI hw (by decide)), ix_nI (by omega), show rI z' (20 + 6) w = _ from b1', show rI z' (20 + 7) w = _ from b2', show rI z' (20 + 8) w = _ from b3']
  unfold bitF
  rcases (show t = 0 ∨ t = 1 ∨ t = 2 by omega) with rfl | rfl | rfl
  · rw [if_pos (show nI 0 = (0 : Int32) from rfl), if_pos (show nI 0 = (0 : Int32) from rfl)]; rfl
  · rw [if_neg (show ¬ nI 1 = (0 : Int32) by decide), if_neg (show ¬ nI 1 = (0 : Int32) by decide), if_pos (show nI 1 = (1 : Int32) from rfl), if_pos (show nI 1 = (1 : Int32) from rfl), b1_some]; rfl
  · rw [if_neg (show ¬ nI 2 = (0 : Int32) by decide), if_neg (show ¬ nI 2 = (0 : Int32) by decide), if_neg (show ¬ nI 2 = (1 : Int32) by decide), if_neg (show ¬ nI 2 = (1 : Int32) by decide), b1_some]; rfl
def sGone (v t : Int32) (a : Ab) : Int32 := if bad v (nV (aT0 a)) ∨ bad t 2 then -2 else if t = 0 then opI (rT (rnK (kT a) 40) (ix v)) else opI (rG (rnK (kT a) 40) (ix v))
theorem X_gone {z : Sg} {a : Ab} (h : AXg PTt PRr z a) (v t : Int32) : ∃ z', f_X7_gone v t z = some (sGone v t a, z') ∧ AXg PTt PRr z' a := by
  have d := h.1.dok
  have d1 := d.1
  unfold f_X7_gone sGone
  rw [x_noVirtue h.1.rd d]
  rcases arg_cases v (nV (aT0 a)) (by omega) with hv | ⟨v, hv, rfl⟩
  · refine ⟨z, ?_, h⟩
    rw [if_pos (show bad v (nV (aT0 a)) from hv), b1_some, if_pos ne10, b1_some, if_pos rfl, if_pos (Or.inl hv)]
  have n1 := not_bad hv (by omega)
  rw [if_neg n1]
  rcases arg_cases t 2 (by decide) with ht | ⟨t, ht, rfl⟩
  · have e3 : f_X7_outside t 2 = some 1 := x_out_bad (n := 2) ht
    refine ⟨z, ?_, h⟩
    rw [b1_some, if_neg (by decide), e3, b1_some, if_pos ne10, b1_some, if_pos rfl, if_pos (Or.inr ht)]
  have e3 : f_X7_outside (nI t) 2 = some 0 := x_out_nI (n := 2) ht (by decide)
  have n2 := not_bad ht (by decide)
  obtain ⟨z', e', h', hp, -⟩ := x_toldRun h
  obtain ⟨b1', b2'⟩ := hp.2.2.2.1 v (by omega)
  refine ⟨z', ?_, h'⟩
  rw [b1_some, if_neg (by decide), e3, b1_some, if_neg (by decide), b1_some, if_neg (by decide), e', b2_some, ck_pos kX_20', if_neg (show ¬ (bad (nI v) (nV (aT0 a)) ∨ bad (nI t) 2) from fun q => q.elim n1 n2), ck_pos (ib_nI (show v < 8 by omega) (by decide)), ck_pos (ib_nI (show v < 8 by omega) (by decide)), ix_nI (by omega), show rI z' (20 + 9) v = _ from b1', show rI z' (20 + 10) v = _ from b2']
  rcases (show t = 0 ∨ t = 1 by omega) with rfl | rfl
  · rw [if_pos (show nI 0 = (0 : Int32) from rfl), if_pos (show nI 0 = (0 : Int32) from rfl), b1_some]
  · rw [if_neg (show ¬ nI 1 = (0 : Int32) by decide), if_neg (show ¬ nI 1 = (0 : Int32) by decide), b1_some]
def sEmpty (a : Ab) : Int32 := nI (bO (fun k => !rV (rnK (kT a) 40) k) (aC a).1)
theorem X_empty {z : Sg} {a : Ab} (h : AXg PTt PRr z a) : ∃ z', f_X7_empty z = some (sEmpty a, z') ∧ AXg PTt PRr z' a := by
  obtain ⟨z', e', h', hp, -⟩ := x_toldRun h
  refine ⟨z', ?_, h'⟩
  have hc := h'.1.2.2.2.2.1
  have p0 : 0 < 2 ^ (aC a).1 := Nat.pow_pos (by decide)
  have h12 := hc.2.1
  unfold f_X7_empty sEmpty
  rw [e', b2_some, ck_pos kX_20', show rJ z' 20 15 = _ from hp.2.2.1, lN_i, hc.1, one_shl (by omega), show nI (2 ^ (aC a).1) - (1 : Int32) = nI (2 ^ (aC a).1 - 1) from pk_sub (b := 1) p0, m1_nI, nI_xor, nI_and]
  refine congrArg (fun q => some (nI q, z')) (Nat.eq_of_testBit_eq fun i => ?_)
  rw [Nat.testBit_and, Nat.testBit_xor, Nat.testBit_two_pow_sub_one, Nat.testBit_two_pow_sub_one, bO_test, bO_test]
  by_cases c : i < (aC a).1
  · rw [decide_eq_true c, decide_eq_true (show i < 32 by omega), decide_eq_true (show i < 52 by omega)]
    cases rV (rnK (kT a) 40) i <;> rfl
  · rw [decide_eq_false c]; rfl
/-- the worth of some -/
def smW (t0 : Tx) (p : Nat → Bool) : Nat → Nat
  | 0 => 0
  | v + 1 => smW t0 p v + (if p v then fgB t0.2 v else 0)
def sSale (a : Ab) : Int32 := nI (smW (aT0 a) (solS (rnK (kT a) 40)) (nV (aT0 a)))
theorem X_sale {z : Sg} {a : Ab} (h : AXg PTt PRr z a) : ∃ z', f_X7_sale z = some (sSale a, z') ∧ AXg PTt PRr z' a := by
  obtain ⟨z', e', h', hp, -⟩ := x_toldRun h
  have d := h'.1.dok
  have d1 := d.1
  have r := h'.1.rd
  have p8 : 2 ^ nV (aT0 a) ≤ 256 := Nat.pow_le_pow_right (n := 2) (by decide) d1
  have hB : bO (solS (rnK (kT a) 40)) (nV (aT0 a)) < 256 := Nat.lt_of_lt_of_le (bO_lt _ _) p8
  refine ⟨z', ?_, h'⟩
  unfold f_X7_sale sSale
  rw [e', b2_some, ck_pos kX_20', show rI z' 20 14 = nI (bO (solS (rnK (kT a) 40)) (nV (aT0 a))) from hp.1]
  have := lp_up (fun n b i => f_X7_sale_lp1 (nI (bO (solS (rnK (kT a) 40)) (nV (aT0 a)))) z' n b i) (nV (aT0 a)) (fun i => nI (smW (aT0 a) (solS (rnK (kT a) 40)) i)) _ (fun n => by
    show f_X7_sale_lp1 _ z' (n + 1) _ _ = _
    rw [f_X7_sale_lp1, r.1, if_neg Int32.lt_irrefl]) (fun n i hi => by
    show f_X7_sale_lp1 _ z' (n + 1) _ _ = f_X7_sale_lp1 _ z' n (nI (smW (aT0 a) (solS (rnK (kT a) 40)) i + (if solS (rnK (kT a) 40) i then fgB (aT0 a).2 i else 0))) _
    rw [f_X7_sale_lp1, r.1, if_pos (nI_lt hi (by omega)), nI_l1]
    have hb := bit_is (a := bO (solS (rnK (kT a) 40)) (nV (aT0 a))) (k := i) (by omega) (by omega)
    rw [bO_test, decide_eq_true hi, Bool.true_and] at hb
    cases hs : solS (rnK (kT a) 40) i with
    | true => rw [if_pos (hb.mpr hs), ck_pos (ib_nI (show i < 8 by omega) (by decide)), ix_nI (by omega), (r.2.2.1 i hi).2, nI_plus, b1_some, if_pos rfl]
    | false => rw [if_neg (fun q => by rw [hb, hs] at q; cases q), b1_some, if_neg (by decide)]; rfl) 4096 (by omega)
  rw [show f_X7_sale_lp1 (nI (bO (solS (rnK (kT a) 40)) (nV (aT0 a)))) z' 4096 0 0 = _ from this, b1_some]
def sSaint (a : Ab) : Int32 := opI (rS (rnK (kT a) 40))
theorem X_saint {z : Sg} {a : Ab} (h : AXg PTt PRr z a) : ∃ z', f_X7_saint z = some (sSaint a, z') ∧ AXg PTt PRr z' a := by
  obtain ⟨z', e', h', hp, -⟩ := x_toldRun h
  refine ⟨z', ?_, h'⟩
  unfold f_X7_saint sSaint
  rw [e', b2_some, ck_pos kX_20', show rI z' 20 16 = _ from hp.2.1]
/-- the shelf behind week i, on a sheet -/
def wrA (s : Nat) (i : Nat) (a : Ab) : Ab := upSh a (shPut (aSh a) s i (nI (bO (onS (rnK (kT a) (i + 1))) (nV (aT0 a)))))
def wrN (m : Nat) : Nat := if 40 < m then 40 else m
def sWrite (s : Int32) (a : Ab) : Int32 × Ab := if bad s 4 then (-2, a) else if (aSh a).1 (ix s) then (nI (wrN ((aSh a).2.2.1 (ix s))), fo (wrA (ix s)) (wrN ((aSh a).2.2.1 (ix s))) 0 a) else fnd 1 a
theorem X_write_lp {s n : Nat} (hs : s < 4) (hn : n ≤ 40) : ∀ (dd i fu : Nat) (z : Sg) (a : Ab), i + dd = n → AXg PTt PRr z a → rI z 0 10 = 1 → ∃ z', f_X7_write_lp1 (45 + 2 * s) 20 (nI n) (fu + 1 + dd) (nI i) z = some z' ∧ AXg PTt PRr z' (fo (wrA s) dd i a)
  | 0, i, fu, z, a, hi, h, h1 => by
    obtain rfl : i = n := by omega
    refine ⟨z, ?_, h⟩
    rw [show fu + 1 + 0 = fu + 1 from rfl, f_X7_write_lp1, if_neg Int32.lt_irrefl]
  | dd + 1, i, fu, z, a, hi, h, h1 => by
    have hp : PTt (vT z) (kT a) := by
      rcases h.2.1 with g | g
      · rw [h1] at g; exact absurd g (by decide)
      · exact g.2
    have H := h.1.2.2.2.2.2.2.1
    have hw : AXg PTt PRr (wI z (46 + 2 * s) i (narI ((aSh a).2.1 s) (nI (bO (onS (rnK (kT a) (i + 1))) (nV (aT0 a)))))) (wrA s i a) := h.sh (H.put hs (by omega) _) (fun u hu => by rw [rIf_wI, if_neg (by omega)]) rfl
    obtain ⟨z', e', h'⟩ := X_write_lp hs hn dd (i + 1) fu _ (wrA s i a) (by omega) hw (by rw [rIf_wI, if_neg (by omega)]; exact h1)
    refine ⟨z', ?_, h'⟩
    rw [show fu + 1 + (dd + 1) = (fu + 1 + dd) + 1 by omega, f_X7_write_lp1, if_pos (nI_lt (show i < n by omega) (by omega)), ck_pos (ib_nI (show i < 40 by omega) (by decide)), ix_nI (by omega), show rI z (20 + 6) i = nI (bO (onS (rnK (kT a) (i + 1))) (nV (aT0 a))) from (hp.2.2.2.2 i (by omega)).1, X5_store H hs (show i < 48 by omega), b1_some, nI_l1]
    exact e'
theorem X_write {z : Sg} {a : Ab} (h : AXg PTt PRr z a) (s : Int32) : ∃ z', f_X7_write s z = some ((sWrite s a).1, z') ∧ AXg PTt PRr z' (sWrite s a).2 := by
  unfold f_X7_write
  rcases arg_cases s 4 (by decide) with hs | ⟨s, hs, rfl⟩
  · have e : f_X7_outside s 4 = some 1 := x_out_bad (n := 4) hs
    exact ⟨z, by simp [e, b1_some, sWrite, bad, hs], by simp only [sWrite, bad, hs, if_true]; exact h⟩
  · have e : f_X7_outside (nI s) 4 = some 0 := x_out_nI (n := 4) hs (by decide)
    have ns := not_bad hs (by decide)
    have H := h.1.2.2.2.2.2.2.1
    rw [e, b1_some, if_neg (by decide), ck_pos (ib_nI hs (by decide)), ix_nI (by omega), ck_pos (kdS hs), x_isLost H hs, b1_some]
    unfold sWrite
    rw [if_neg ns, ix_nI (by omega)]
    cases ht : (aSh a).1 s with
    | true =>
      rw [if_pos rfl, if_neg (by decide)]
      obtain ⟨z1, e1, h1, -, f1⟩ := x_toldRun h
      obtain ⟨k1, -, -, k4, -⟩ := h1.1.2.2.2.2.2.2.1 s hs
      rw [ht] at k1
      have hk : rI z1 (45 + 2 * s) 1 = nI ((aSh a).2.2.1 s) := k1
      have hm : (if (40 : Int32) < nI ((aSh a).2.2.1 s) then (40 : Int32) else nI ((aSh a).2.2.1 s)) = nI (wrN ((aSh a).2.2.1 s)) := by
        unfold wrN
        by_cases g : 40 < (aSh a).2.2.1 s
        · rw [if_pos (show (40 : Int32) < nI ((aSh a).2.2.1 s) from nI_lt (a := 40) g (by omega)), if_pos g]; rfl
        · rw [if_neg (show ¬ (40 : Int32) < nI ((aSh a).2.2.1 s) from nI_nlt (a := 40) (by omega) (by decide)), if_neg g]
      have hw40 : wrN ((aSh a).2.2.1 s) ≤ 40 := by unfold wrN; split <;> omega
      obtain ⟨z2, e2, h2⟩ := X_write_lp hs hw40 (wrN ((aSh a).2.2.1 s)) 0 (4095 - wrN ((aSh a).2.2.1 s)) z1 a (by omega) h1 f1
      rw [show 4095 - wrN ((aSh a).2.2.1 s) + 1 + wrN ((aSh a).2.2.1 s) = 4096 by omega, nI_0] at e2
      refine ⟨z2, ?_, h2⟩
      rw [e1, b2_some, ck_pos kX_20', hk, hm, e2, b1_some]
      rfl
    | false =>
      rw [if_neg (show ¬ false = true by decide), if_neg (show ¬ false = true by decide), if_pos ne10]
      exact ⟨_, rfl, h.fnd (n := 1) (by decide)⟩
