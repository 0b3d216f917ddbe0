/-! WHEN. -/
def allB (p : Nat → Bool) : Nat → Bool
  | 0 => true
  | n + 1 => allB p n && p n
theorem allB_s (p : Nat → Bool) (n : Nat) : allB p (n + 1) = (allB p n && p n) := rfl
theorem allB_f {p : Nat → Bool} {k : Nat} (h : allB p k = false) : ∀ n, k ≤ n → allB p n = false
  | 0, hk => by rw [show k = 0 by omega] at h; exact h
  | n + 1, hk => by
    rcases Nat.lt_or_ge k (n + 1) with q | q
    · rw [allB_s, allB_f h n (by omega)]; rfl
    · rw [show n + 1 = k by omega]; exact h
/-- the weeks with one handing more -/
def rnW (a : Ab) (w v : Nat) (n : Nat) : Rs := rn (aT0 a) (aT1 a) (aE a) (aK a) (hdU (aT0 a) (hdK (kT a)) w v) (clK (kT a)) n
def agr (a : Ab) (w v k : Nat) : Bool := decide (bO (onS (rnW a w v ((aW a).2.1 k + 1))) (nV (aT0 a)) / 2 ^ (aW a).2.2.1 k % 2 = (aW a).2.2.2 k)
def sWhen (v : Int32) (a : Ab) : Int32 := if bad v (nV (aT0 a)) then -2 else nI (bO (fun w => allB (agr a w (ix v)) (aW a).1) 20)
/-- the last week seen, and one -/
def lastW (sw : Nat → Nat) : Nat → Nat
  | 0 => 0
  | k + 1 => if lastW sw k ≤ sw k then sw k + 1 else lastW sw k
theorem lastW_s (sw : Nat → Nat) (k : Nat) : lastW sw (k + 1) = if lastW sw k ≤ sw k then sw k + 1 else lastW sw k := rfl
theorem lastW_gt (sw : Nat → Nat) : ∀ n k, k < n → sw k < lastW sw n
  | 0, k, h => by omega
  | n + 1, k, h => by
    rw [lastW_s]
    rcases Nat.lt_or_ge k n with q | q
    · have := lastW_gt sw n k q
      split <;> omega
    · rw [show k = n by omega]
      split <;> omega
theorem lastW_le {sw : Nat → Nat} : ∀ n, (∀ k, k < n → sw k < 40) → lastW sw n ≤ 40
  | 0, _ => by show 0 ≤ 40; decide
  | n + 1, h => by
    have := lastW_le n (fun k hk => h k (by omega))
    have := h n (by omega)
    rw [lastW_s]
    split <;> omega
theorem x_lastWeek {z : Sg} {b : Sn} (hS : SnX (rI z 16) (rI z 17) (rI z 18) (rI z 19) b) : f_X6_lastWeek z = some (nI (lastW b.2.1 b.1) + (-1 : Int32)) := by
  obtain ⟨h1, h2, h3⟩ := hS
  unfold f_X6_lastWeek
  have this : f_X6_lastWeek_lp1 z 4096 (nI (lastW b.2.1 0) + (-1 : Int32)) (nI 0) = some (nI (lastW b.2.1 b.1) + (-1 : Int32)) := lp_up (fun n b i => f_X6_lastWeek_lp1 z n b i) b.1 (fun i => nI (lastW b.2.1 i) + (-1 : Int32)) _ (fun n => by
    show f_X6_lastWeek_lp1 z (n + 1) _ _ = _
    rw [f_X6_lastWeek_lp1, h1, if_neg Int32.lt_irrefl]) (fun n i hi => by
    show f_X6_lastWeek_lp1 z (n + 1) _ _ = f_X6_lastWeek_lp1 z n _ _
    obtain ⟨g1, -, -, g4, -⟩ := h3 i hi
    have hl := lastW_le (sw := b.2.1) i (fun k hk => (h3 k (by omega)).2.2.2.1)
    rw [f_X6_lastWeek_lp1, h1, if_pos (nI_lt hi (by omega)), ck_pos (ib_nI (show i < 8 by omega) (by decide)), ix_nI (by omega), g1, nI_l1, lastW_s]
    have hc : nI (lastW b.2.1 i) + (-1 : Int32) < nI (b.2.1 i) ↔ lastW b.2.1 i ≤ b.2.1 i := by
      cases hq : lastW b.2.1 i with
      | zero => exact ⟨fun _ => by omega, fun _ => by rw [nI_0m1]; exact Int32.lt_of_lt_of_le (by decide) (nI_pos' (show b.2.1 i < 2 ^ 31 by omega))⟩
      | succ x => rw [nI_m1, nI_ltI (by omega) (by omega)]; omega
    by_cases g : lastW b.2.1 i ≤ b.2.1 i
    · rw [if_pos (hc.mpr g), if_pos g, nI_m1]
    · rw [if_neg (fun q => g (hc.mp q)), if_neg g]) 4096 (by omega)
  rw [show lastW b.2.1 0 = 0 from rfl, nI_0m1, nI_0] at this
  rw [this, b1_some]
theorem x_agree {z : Sg} {b : Sn} {t : Nat} {F : Nat → Nat} (hS : SnX (rI z 16) (rI z 17) (rI z 18) (rI z 19) b) (hF : ∀ w, F w < 256) (hB : ∀ k, k < b.1 → rI z t (b.2.1 k) = nI (F (b.2.1 k))) : f_X6_agreeWith t z = some (if allB (fun k => decide (F (b.2.1 k) / 2 ^ b.2.2.1 k % 2 = b.2.2.2 k)) b.1 then 1 else 0) := by
  obtain ⟨h1, h2, h3⟩ := hS
  have key : ∀ (dd i fu : Nat), i + dd = b.1 → allB (fun k => decide (F (b.2.1 k) / 2 ^ b.2.2.1 k % 2 = b.2.2.2 k)) i = true → f_X6_agreeWith_lp1 t z (fu + 1 + dd) (nI i) = some (if allB (fun k => decide (F (b.2.1 k) / 2 ^ b.2.2.1 k % 2 = b.2.2.2 k)) b.1 then 1 else 0) := by
    intro dd
    induction dd with
    | zero =>
      intro i fu hi hA
      obtain rfl : i = b.1 := by omega
      rw [show fu + 1 + 0 = fu + 1 from rfl, f_X6_agreeWith_lp1, h1, if_neg Int32.lt_irrefl, hA]
      rfl
    | succ dd ih =>
      intro i fu hi hA
      obtain ⟨g1, g2, g3, g4, g5, g6⟩ := h3 i (by omega)
      have hf := hF (b.2.1 i)
      rw [show fu + 1 + (dd + 1) = (fu + 1 + dd) + 1 by omega, f_X6_agreeWith_lp1, h1, if_pos (nI_lt (show i < b.1 by omega) (by omega)), ck_pos (ib_nI (show i < 8 by omega) (by decide)), ix_nI (by omega), g1, g2, g3, ck_pos (ib_nI g4 (by decide)), ck_pos (ib_nI (show i < 8 by omega) (by decide)), ck_pos (ib_nI (show i < 8 by omega) (by decide)), ix_nI (by omega), hB i (by omega), bit_nI (by omega) (by omega), nI_l1]
      have en := nI_eq (a := F (b.2.1 i) / 2 ^ b.2.2.1 i % 2) (b := b.2.2.2 i) (by omega) (by omega)
      by_cases g : F (b.2.1 i) / 2 ^ b.2.2.1 i % 2 = b.2.2.2 i
      · rw [if_neg (fun q => q (en.mpr g))]
        exact ih (i + 1) fu (by omega) (by rw [allB_s, hA, decide_eq_true g]; rfl)
      · rw [if_pos (fun q => g (en.mp q)), allB_f (k := i + 1) (by rw [allB_s, hA, decide_eq_false g]; rfl) b.1 (by omega)]
        rfl
  have := key b.1 0 (4095 - b.1) (by omega) rfl
  rw [show 4095 - b.1 + 1 + b.1 = 4096 by omega, nI_0] at this
  exact this
theorem x_comesOutSo {z : Sg} {a : Ab} {w v : Nat} (h : AXg PTt PRr z a) (hL : LX 31 z (aT0 a) (aT1 a) (aE a) (hdK (kT a)) (clK (kT a)) (aC a).1) (hw : w < 20) (hv : v < nV (aT0 a)) : ∃ z', f_X7_comesOutSo (nI w) (nI v) z = some (if allB (agr a w v) (aW a).1 then 1 else 0, z') ∧ AXg PTt PRr z' a ∧ LX 31 z' (aT0 a) (aT1 a) (aE a) (hdK (kT a)) (clK (kT a)) (aC a).1 := by
  have d := h.1.dok
  have d1 := d.1
  have hst := h.1.2.2.1
  have hS := h.1.2.2.2.2.2.1
  have p8 : 2 ^ nV (aT0 a) ≤ 256 := Nat.pow_le_pow_right (n := 2) (by decide) d1
  obtain ⟨z1, e1, g1, f1, j1⟩ := x_hand (t := 31) (by decide) h.1.rd d1 hL.1 (show w < 40 by omega) (show v < 8 by omega)
  have hS1 : SnX (rI z1 16) (rI z1 17) (rI z1 18) (rI z1 19) (aW a) := by
    rw [f1 16 (by decide), f1 17 (by decide), f1 18 (by decide), f1 19 (by decide)]; exact hS
  have hl := lastW_le (sw := (aW a).2.1) (aW a).1 (fun k hk => (hS.2.2 k hk).2.2.2.1)
  have hL1 : LX 31 z1 (aT0 a) (aT1 a) (aE a) (hdU (aT0 a) (hdK (kT a)) w v) (clK (kT a)) (aC a).1 := ⟨g1, hL.2.1.of (by rw [f1 31 (by decide)]) (f1 33 (by decide)), fun c hc => by rw [f1 (31 + 3) (by decide), f1 (31 + 4) (by decide)]; exact hL.2.2 c hc⟩
  obtain ⟨z2, e2, p2, b2', f2⟩ := x_play (t := 31) (kp := aK a) (by decide) (h.1.rd.fr (fun u hu => f1 u (by omega))) d (by rw [f1 9 (by decide)]; exact hst.2.2.1) hst.2.2.2.2.2.2 hst.2.2.2.2.2.1 (clK_ok h.1) (fun w' v' q => by
    unfold hdU at q
    rw [Bool.or_eq_true] at q
    rcases q with q | q
    · exact hdN_lt w' v' q
    · rw [Bool.and_eq_true] at q
      exact of_decide_eq_true q.1) hL1 (by have := h.1.2.2.2.2.1.2.1; omega) hl
  have fI : ∀ u, u ≠ 32 → rI (wI z2 32 w (rI z 32 w)) u = rI z2 u := fun u hu => by rw [rIf_wI, if_neg hu]
  have fo' : ∀ u, ¬ (31 ≤ u ∧ u ≤ 41) → rI (wI z2 32 w (rI z 32 w)) u = rI z u := fun u hu => by rw [fI u (by omega), f2.1 u (by omega), f1 u (by omega)]
  have fJ : ∀ u, u ≠ 31 → rJ (wI z2 32 w (rI z 32 w)) u = rJ z u := fun u hu => by
    funext q
    rw [rJ_wI, f2.2.2.2 u q (fun t => hu t.1), rJ_of j1]
  have h' : AXg PTt PRr (wI z2 32 w (rI z 32 w)) a := by
    refine h.keep (h.1.fr (fun u u1 u2 => fo' u (by omega)) (by rw [fo' 0 (by omega)])) (by rw [fo' 0 (by omega)]) (by rw [fo' 0 (by omega)]) ?_ (fJ 42 (by decide)) rfl
    unfold vT
    rw [fo' 20 (by omega), fo' 26 (by omega), fo' 27 (by omega), fo' 28 (by omega), fo' 29 (by omega), fo' 30 (by omega), fJ 20 (by decide)]
  have hA : f_X6_agreeWith 37 (wI z2 32 w (rI z 32 w)) = some (if allB (agr a w v) (aW a).1 then 1 else 0) := x_agree (t := 37) (F := fun x => bO (onS (rnW a w v (x + 1))) (nV (aT0 a))) h'.1.2.2.2.2.2.1 (fun x => Nat.lt_of_lt_of_le (bO_lt _ _) p8) (fun k hk => by rw [fI 37 (by decide)]; exact (b2' ((aW a).2.1 k) (lastW_gt _ _ _ hk)).1)
  refine ⟨wI z2 32 w (rI z 32 w), ?_, h', ⟨fun w' hw' => ?_, (hL.2.1.of (z' := z1) (by rw [f1 31 (by decide)]) (f1 33 (by decide))).of (z' := wI z2 32 w (rI z 32 w)) (by rw [fI 31 (by decide)]; exact f2.2.1 3 (by decide)) (by rw [fI (31 + 2) (by decide)]; exact f2.2.2.1 2 (by decide) (by decide)), fun c hc => ?_⟩⟩
  · unfold f_X7_comesOutSo
    rw [ck_pos (ib_nI (show w < 40 by omega) (by decide)), e1, b1_some, x_lastWeek hS1, b1_some, e2, b1_some, ck_pos (ib_nI (show w < 40 by omega) (by decide)), ix_nI (by omega), hA, b1_some]
    cases allB (agr a w v) (aW a).1
    · rw [ck_pos (show bz (if false = true then (1 : Int32) else 0) from bz0)]
    · rw [ck_pos (show bz (if true = true then (1 : Int32) else 0) from bz1)]
  · rw [show 31 + 1 = 32 from rfl, rI_wI]
    by_cases g : w' = w
    · rw [if_pos ⟨rfl, g⟩, g]; exact hL.1 w (by omega)
    · rw [if_neg (fun q => g q.2), show rI z2 32 = rI z1 32 from f2.2.2.1 1 (by decide) (by decide), show rI z1 32 w' = _ from g1 w' hw']
      refine congrArg nI (bO_congr _ fun j _ => ?_)
      unfold hdU
      rw [decide_eq_false (show ¬ w = w' from fun q => g q.symm), Bool.false_and, Bool.and_false, Bool.or_false]
  · rw [fI (31 + 3) (by decide), fI (31 + 4) (by decide), f2.2.2.1 3 (by decide) (by decide), f2.2.2.1 4 (by decide) (by decide), f1 (31 + 3) (by decide), f1 (31 + 4) (by decide)]
    exact hL.2.2 c hc
theorem AXg.trial {z z' : Sg} {a : Ab} (h : AXg PTt PRr z a) (fo' : ∀ u, ¬ (31 ≤ u ∧ u ≤ 41) → rI z' u = rI z u) (fJ : ∀ u, u ≠ 31 → rJ z' u = rJ z u) : AXg PTt PRr z' a := by
  refine h.keep (h.1.fr (fun u u1 u2 => fo' u (by omega)) (by rw [fo' 0 (by omega)])) (by rw [fo' 0 (by omega)]) (by rw [fo' 0 (by omega)]) ?_ (fJ 42 (by decide)) rfl
  unfold vT
  rw [fo' 20 (by omega), fo' 26 (by omega), fo' 27 (by omega), fo' 28 (by omega), fo' 29 (by omega), fo' 30 (by omega), fJ 20 (by decide)]
theorem x_load31 {z : Sg} {a : Ab} (h : AXg PTt PRr z a) : ∃ z', f_X4_load 31 10 13 z = some z' ∧ AXg PTt PRr z' a ∧ LX 31 z' (aT0 a) (aT1 a) (aE a) (hdK (kT a)) (clK (kT a)) (aC a).1 := by
  obtain ⟨z1, e1, l1, f1, k1, j1⟩ := x_load (t := 31) (by decide) h.1
  exact ⟨z1, e1, h.trial (fun u hu => f1 u (by omega)) (fun u _ => rJ_of j1 u), l1⟩
theorem X_when_lp {a : Ab} {v : Nat} (hv : v < nV (aT0 a)) : ∀ (dd w fu : Nat) (z : Sg), w + dd = 20 → AXg PTt PRr z a → LX 31 z (aT0 a) (aT1 a) (aE a) (hdK (kT a)) (clK (kT a)) (aC a).1 → ∃ z', f_X7_when_lp1 (nI v) (fu + 1 + dd) (nI (bO (fun w => allB (agr a w v) (aW a).1) w)) (nI w) z = some (nI (bO (fun w => allB (agr a w v) (aW a).1) 20), z') ∧ AXg PTt PRr z' a
  | 0, w, fu, z, hw, h, hL => by
    obtain rfl : w = 20 := by omega
    refine ⟨z, ?_, h⟩
    rw [show fu + 1 + 0 = fu + 1 from rfl, f_X7_when_lp1, if_neg (show ¬ nI 20 < (20 : Int32) from Int32.lt_irrefl)]
  | dd + 1, w, fu, z, hw, h, hL => by
    obtain ⟨z1, e1, h1, l1⟩ := x_comesOutSo h hL (show w < 20 by omega) hv
    obtain ⟨z2, e2, h2⟩ := X_when_lp hv dd (w + 1) fu z1 (by omega) h1 l1
    refine ⟨z2, ?_, h2⟩
    rw [show fu + 1 + (dd + 1) = (fu + 1 + dd) + 1 by omega, f_X7_when_lp1, if_pos (show nI w < (20 : Int32) from nI_lt (b := 20) (by omega) (by decide)), e1, b2_some, nI_l1, ← e2, ← bO_step (p := fun w => allB (agr a w v) (aW a).1) (show w < 31 by omega)]
    cases allB (agr a w v) (aW a).1
    · rw [if_neg (show ¬ ¬ (if false = true then (1 : Int32) else 0) = 0 by decide), b2_some, if_neg (by decide)]
    · rw [if_pos (show ¬ (if true = true then (1 : Int32) else 0) = 0 by decide), b2_some, if_pos rfl]
theorem X_when {z : Sg} {a : Ab} (h : AXg PTt PRr z a) (v : Int32) : ∃ z', f_X7_when v z = some (sWhen v a, z') ∧ AXg PTt PRr z' a := by
  have d := h.1.dok
  have d1 := d.1
  unfold f_X7_when sWhen
  rw [x_noVirtue h.1.rd d]
  rcases arg_cases v (nV (aT0 a)) (by omega) with hv | ⟨v, hv, rfl⟩
  · refine ⟨z, ?_, h⟩
    rw [if_pos (show bad v (nV (aT0 a)) from hv), b1_some, if_pos ne10, if_pos (show bad v (nV (aT0 a)) from hv)]
  have n1 := not_bad hv (by omega)
  obtain ⟨z1, e1, h1, l1⟩ := x_load31 h
  obtain ⟨z2, e2, h2⟩ := X_when_lp hv 20 0 4075 z1 (by omega) h1 l1
  refine ⟨z2, ?_, h2⟩
  rw [if_neg n1, b1_some, if_neg (by decide), e1, b1_some, show f_X7_when_lp1 (nI v) 4096 0 0 z1 = _ from e2, b2_some, if_neg n1, ix_nI (by omega)]
