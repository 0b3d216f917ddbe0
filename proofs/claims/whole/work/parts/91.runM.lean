/-! THE WEEKS: the reference. -/
def PM (z : Sg) (M : Nat) (s : Rs) : Prop := (∀ v, v < 8 → rI z 12 v = opI (rC s v) ∧ rI z 13 v = opI (rG s v) ∧ rI z 14 v = opI (rT s v)) ∧ rI z 0 21 = nI (bO (fun k => !rV s k) M) ∧ rI z 0 22 = opI (rS s)
def FM (z z' : Sg) : Prop := (∀ u, u ≠ 0 → u ≠ 12 → u ≠ 13 → u ≠ 14 → rI z' u = rI z u) ∧ ∀ k, k ≠ 21 → k ≠ 22 → rI z' 0 k = rI z 0 k
theorem FM.refl (z : Sg) : FM z z := ⟨fun _ _ _ _ _ => rfl, fun _ _ _ => rfl⟩
theorem FM.trans {z z' z'' : Sg} (h : FM z z') (g : FM z' z'') : FM z z'' := ⟨fun u a b c d => (g.1 u a b c d).trans (h.1 u a b c d), fun k a b => (g.2 k a b).trans (h.2 k a b)⟩
theorem FM.rd {z z' : Sg} {t0 t1 : Tx} (f : FM z z') (r : RDm z t0 t1) : RDm z' t0 t1 := by
  unfold RDm at *
  rw [f.2 2 (by decide) (by decide), f.2 5 (by decide) (by decide), f.1 3 (by decide) (by decide) (by decide) (by decide), f.1 4 (by decide) (by decide) (by decide) (by decide), f.1 5 (by decide) (by decide) (by decide) (by decide), f.1 6 (by decide) (by decide) (by decide) (by decide), f.1 7 (by decide) (by decide) (by decide) (by decide)]
  exact r
theorem FM.am {z z' : Sg} {a : Ab} (f : FM z z') (h : AM z a) : AM z' a :=
  h.fr (fun k hk => f.2 k (by rintro rfl; revert hk; decide) (by rintro rfl; revert hk; decide)) (f.1 1 (by decide) (by decide) (by decide) (by decide)) (f.1 2 (by decide) (by decide) (by decide) (by decide)) (fun u _ _ => f.1 u (by omega) (by omega) (by omega) (by omega)) (fun u _ _ => f.1 u (by omega) (by omega) (by omega) (by omega))
theorem bO_all : ∀ n, bO (fun _ => true) n = 2 ^ n - 1
  | 0 => rfl
  | n + 1 => by
    show bO (fun _ => true) n + (if true = true then 2 ^ n else 0) = _
    have := Nat.pow_pos (n := n) (show 0 < 2 by decide)
    rw [bO_all n, if_pos rfl, Nat.pow_succ]
    omega
section RunM
variable {z : Sg} {t0 t1 : Tx} {e kp M : Nat}
theorem m_begin : ∃ z', f_X8_runs_lp1 4096 0 z = some z' ∧ (∀ v, v < 8 → rI z' 12 v = -1 ∧ rI z' 13 v = -1 ∧ rI z' 14 v = -1) ∧ (∀ u, u ≠ 12 → u ≠ 13 → u ≠ 14 → rI z' u = rI z u) := by
  have key := lp_fo (fun m i z => f_X8_runs_lp1 m i z) 8 (fun i z => wI (wI (wI z 12 i (-1)) 13 i (-1)) 14 i (-1)) (fun z => z) (fun i z' => (∀ v, v < i → rI z' 12 v = -1 ∧ rI z' 13 v = -1 ∧ rI z' 14 v = -1) ∧ (∀ u, u ≠ 12 → u ≠ 13 → u ≠ 14 → rI z' u = rI z u)) (fun m z' hP => by
    show f_X8_runs_lp1 (m + 1) _ z' = some z'
    rw [f_X8_runs_lp1, if_neg (show ¬ nI 8 < (8 : Int32) from Int32.lt_irrefl)]) (fun m i z' hi hP => by
    obtain ⟨p1, p2⟩ := hP
    refine ⟨?_, fun v hv => ?_, fun u h1 h2 h3 => ?_⟩
    · show f_X8_runs_lp1 (m + 1) _ z' = f_X8_runs_lp1 m _ _
      rw [f_X8_runs_lp1, if_pos (show nI i < (8 : Int32) from nI_lt (b := 8) hi (by decide)), ck_pos (ib_nI hi (by decide)), ck_pos (ib_nI hi (by decide)), ck_pos (ib_nI hi (by decide)), nI_l1, ix_nI (by omega)]
    · simp only [rI_wI]
      by_cases g : v = i
      · simp [g]
      · simp only [g, and_false, if_false]; exact p1 v (by omega)
    · rw [rIf_wI, if_neg h3, rIf_wI, if_neg h2, rIf_wI, if_neg h1]; exact p2 u h1 h2 h3) 8 0 4096 z (by omega) (by omega) ⟨fun v h => by omega, fun _ _ _ _ => rfl⟩
  obtain ⟨k1, k2, k3⟩ := key
  rw [nI_0] at k1
  exact ⟨_, k1, k2, k3⟩
/-- a virtue of a handing: had it come -/
theorem bring_p {Hd : Nat → Nat → Bool} {w : Nat} {s : Rs} (v : Nat) : rC (bring Hd w s) v = if (rC s v).isNone && Hd w v then some w else rC s v := rfl
theorem m_hands {hw hv : Nat → Nat} {w n : Nat} {s : Rs} (r : RDm z t0 t1) (d1 : nV t0 ≤ 8) (hw40 : w < 40) (hn : n ≤ 52) (hb : ∀ k, k < n → rI z 8 k = nI (hw k) ∧ rI z 9 k = nI (hv k) ∧ hw k < 40 ∧ hv k < 8) (hok : RsOK (nV t0) w s) (hP : PM z M s) : ∃ z', f_X8_runs_lp3 (nI n) (nI w) 4096 0 z = some z' ∧ PM z' M (bring (hdN t0 hw hv n) w s) ∧ FM z z' := by
  have key : ∀ (dd k fu : Nat) (z' : Sg), k + dd = n → (∀ v, v < 8 → rI z' 12 v = opI (rC (bring (hdN t0 hw hv k) w s) v)) → (∀ u, u ≠ 12 → rI z' u = rI z u) → ∃ z'', f_X8_runs_lp3 (nI n) (nI w) (fu + 1 + dd) (nI k) z' = some z'' ∧ (∀ v, v < 8 → rI z'' 12 v = opI (rC (bring (hdN t0 hw hv n) w s) v)) ∧ (∀ u, u ≠ 12 → rI z'' u = rI z u) := by
    intro dd
    induction dd with
    | zero =>
      intro k fu z' hk h1 h2
      obtain rfl : k = n := by omega
      refine ⟨z', ?_, h1, h2⟩
      rw [show fu + 1 + 0 = fu + 1 from rfl, f_X8_runs_lp3, if_neg Int32.lt_irrefl]
    | succ dd ih =>
      intro k fu z' hk h1 h2
      obtain ⟨b1', b2', b3', b4'⟩ := hb k (by omega)
      have hcur : opI (rC (bring (hdN t0 hw hv k) w s) (hv k)) = -1 ↔ rC (bring (hdN t0 hw hv k) w s) (hv k) = none := opI_m1 (fun c hc => by
        rw [bring_p] at hc
        by_cases g : ((rC s (hv k)).isNone && hdN t0 hw hv k w (hv k)) = true
        · rw [if_pos g] at hc; cases hc; omega
        · rw [if_neg g] at hc; have := (hok.1 _ c hc).1; omega)
      have ew : nI (hw k) = nI w ↔ hw k = w := nI_eq (by omega) (by omega)
      have hx : (b1 (ck (ib (nI k) 52) (if nI (hw k) = nI w then if nI (hv k) < nI (nV t0) then ck (ib (nI (hv k)) 8) (if rI z' 12 (ix (nI (hv k))) = (-1 : Int32) then some true else some false) else some false else some false)) fun q19 => if q19 = true then some (nI w) else ck (ib (nI (hv k)) 8) (some (rI z' 12 (ix (nI (hv k)))))) = some (opI (rC (bring (hdN t0 hw hv (k + 1)) w s) (hv k))) := by
        rw [ck_pos (ib_nI (show k < 52 by omega) (by decide)), ck_pos (ib_nI b4' (by decide)), ck_pos (ib_nI b4' (by decide)), ix_nI (by omega), h1 _ b4', hdN_s]
        have hnew : ∀ x, rC (bring (hdU t0 (hdN t0 hw hv k) (hw k) (hv k)) w s) (hv k) = x → x = (if rC (bring (hdN t0 hw hv k) w s) (hv k) = none ∧ hw k = w ∧ hv k < nV t0 then some w else rC (bring (hdN t0 hw hv k) w s) (hv k)) := by
          intro x hx
          rw [← hx, bring_p, bring_p]
          show (if (rC s (hv k)).isNone && (hdN t0 hw hv k w (hv k) || (decide (hv k < nV t0) && (decide (hw k = w) && decide (hv k = hv k)))) then some w else rC s (hv k)) = _
          cases hc : rC s (hv k) with
          | some c => simp
          | none =>
            cases hdN t0 hw hv k w (hv k) with
            | true => simp
            | false =>
              by_cases g1 : hv k < nV t0
              · by_cases g2 : hw k = w
                · simp [g1, g2]
                · simp [g1, g2]
              · simp [g1]
        rw [hnew _ rfl]
        by_cases g2 : hw k = w
        · rw [if_pos (ew.mpr g2)]
          by_cases g1 : hv k < nV t0
          · rw [if_pos (nI_lt g1 (by omega))]
            by_cases g3 : rC (bring (hdN t0 hw hv k) w s) (hv k) = none
            · rw [if_pos (hcur.mpr g3), b1_some, if_pos rfl, if_pos ⟨g3, g2, g1⟩]; rfl
            · rw [if_neg (fun q => g3 (hcur.mp q)), b1_some, if_neg (by decide), if_neg (fun q => g3 q.1)]
          · rw [if_neg (nI_nlt (by omega) (by omega)), b1_some, if_neg (by decide), if_neg (fun q => g1 q.2.2)]
        · rw [if_neg (fun q => g2 (ew.mp q)), b1_some, if_neg (by decide), if_neg (fun q => g2 q.2.1)]
      obtain ⟨z3, e3, i3⟩ := ih (k + 1) fu (wI z' 12 (hv k) (opI (rC (bring (hdN t0 hw hv (k + 1)) w s) (hv k)))) (by omega) (fun v hv' => by
        rw [rI_wI]
        by_cases g : v = hv k
        · rw [if_pos ⟨rfl, g⟩, g]
        · rw [if_neg (fun q => g q.2), h1 v hv', hdN_s, bring_p, bring_p]
          show opI (if (rC s v).isNone && hdN t0 hw hv k w v then some w else rC s v) = opI (if (rC s v).isNone && (hdN t0 hw hv k w v || (decide (v < nV t0) && (decide (hw k = w) && decide (hv k = v)))) then some w else rC s v)
          rw [decide_eq_false (show ¬ hv k = v from fun q => g q.symm), Bool.and_false, Bool.and_false, Bool.or_false]) (fun u hu => by rw [rIf_wI, if_neg hu]; exact h2 u hu)
      refine ⟨z3, ?_, i3⟩
      rw [show fu + 1 + (dd + 1) = (fu + 1 + dd) + 1 by omega, f_X8_runs_lp3, if_pos (nI_lt (show k < n by omega) (by omega)), ck_pos (ib_nI (show k < 52 by omega) (by decide)), h2 8 (by decide), h2 9 (by decide), h2 0 (by decide), r.1, ix_nI (show k < 2 ^ 31 by omega), b1', b2', hx, b1_some, ck_pos (ib_nI b4' (by decide)), nI_l1, ix_nI (by omega)]
      exact e3
  obtain ⟨z', e', i1, i2⟩ := key n 0 (4095 - n) z (by omega) (fun v hv' => by
    rw [(hP.1 v hv').1, bring_p]
    show _ = opI (if (rC s v).isNone && (decide (v < nV t0) && false) then some w else rC s v)
    rw [Bool.and_false, Bool.and_false, if_neg (by decide)]) (fun _ _ => rfl)
  rw [show 4095 - n + 1 + n = 4096 by omega, nI_0] at e'
  refine ⟨z', e', ⟨fun v hv' => ⟨i1 v hv', ?_⟩, ?_, ?_⟩, fun u _ h2 _ _ => i2 u h2, fun k _ _ => by rw [i2 0 (by decide)]⟩
  · rw [i2 13 (by decide), i2 14 (by decide)]; exact (hP.1 v hv').2
  · rw [i2 0 (by decide)]; exact hP.2.1
  · rw [i2 0 (by decide)]; exact hP.2.2
theorem m_givenTo {c : Nat} {s : Rs} {w : Nat} (r : RDm z t0 t1) (d : DOK t0 t1) (he : rI z 0 9 = nI e) (he4 : e ≤ 4) (hw : w ≤ 40) (hc : c < nC t1) (hok : RsOK (nV t0) w s) (hP : PM z M s) : f_X8_givenTo (nI c) z = some (opI (pick t0 t1 e c s)) := by
  have d1 := d.1
  have d2 := d.2.1
  have h2 := saB_lt t1.2 c
  have hp := pc8_le (saB t1.2 c)
  unfold f_X8_givenTo
  have := lp_up (fun n b i => f_X8_givenTo_lp1 (nI c) z n b i) (nV t0) (fun i => opI (lw t0 (fun v => onS s v && fit t0 t1 c v) i)) _ (fun n => by
    show f_X8_givenTo_lp1 (nI c) z (n + 1) _ _ = _
    rw [f_X8_givenTo_lp1, r.1, if_neg Int32.lt_irrefl]) (fun n i hi => by
    show f_X8_givenTo_lp1 (nI c) z (n + 1) _ _ = f_X8_givenTo_lp1 (nI c) z n _ _
    have hC : opI (rC s i) = -1 ↔ rC s i = none := opI_m1 (fun x hx => by have := (hok.1 i x hx).1; omega)
    have hG : opI (rG s i) = -1 ↔ rG s i = none := opI_m1 (fun x hx => by have := hok.2.2.2.1 i x hx; omega)
    have hmay : (ck (ib (nI i) 8) (if ¬ rI z 12 (ix (nI i)) = (-1 : Int32) then ck (ib (nI i) 8) (if rI z 13 (ix (nI i)) = (-1 : Int32) then b1 (f_X8_fits (nI c) (nI i) z) fun r23 => if ¬ r23 = 0 then some (1 : Int32) else some (0 : Int32) else some (0 : Int32)) else some (0 : Int32))) = some (if (onS s i && fit t0 t1 c i) = true then (1 : Int32) else 0) := by
      rw [ck_pos (ib_nI (show i < 8 by omega) (by decide)), ck_pos (ib_nI (show i < 8 by omega) (by decide)), ix_nI (by omega), (hP.1 i (by omega)).1, (hP.1 i (by omega)).2.1, m_fits r d hc hi, b1_some]
      unfold onS
      cases hq : rC s i with
      | none => rw [if_neg (show ¬ ¬ opI none = -1 from fun g => g rfl)]; rfl
      | some x =>
        rw [hq] at hC
        rw [if_pos (fun g => by have := hC.mp g; cases this)]
        cases hq2 : rG s i with
        | some y =>
          rw [hq2] at hG
          rw [if_neg (fun g => by have := hG.mp g; cases this)]
          rfl
        | none =>
          rw [if_pos (show opI none = -1 from rfl)]
          cases fit t0 t1 c i <;> rfl
    rw [f_X8_givenTo_lp1, r.1, if_pos (nI_lt hi (by omega)), hmay, b1_some, nI_l1, lw_s]
    cases hm : onS s i && fit t0 t1 c i with
    | false => rw [Bool.false_and, if_neg (show ¬ ¬ (if false = true then (1 : Int32) else 0) = 0 by decide), b1_some, if_neg (by decide), b1_some, if_neg (by decide)]
    | true =>
      rw [if_pos rfl, if_pos ne10, Bool.true_and]
      cases hl : lw t0 (fun v => onS s v && fit t0 t1 c v) i with
      | none => rw [if_pos (show opI none = -1 from rfl), b1_some, if_pos rfl, b1_some]; rfl
      | some b =>
        have hb := (lw_is _ _ _ _ hl).1
        have ec := nI_ltI (a := fgB t0.2 i) (b := fgB t0.2 b) (by have := d.2.2.1 i hi; omega) (by have := d.2.2.1 b (by omega); omega)
        rw [if_neg (show ¬ opI (some b) = -1 from nI_ne_m1 (by omega)), ck_pos (ib_nI (show i < 9 by omega) (by decide)), show opI (some b) = nI b from rfl, ck_pos (ib_nI (show b < 9 by omega) (by decide)), ix_nI (by omega), ix_nI (by omega), (r.2.2.1 i hi).2, (r.2.2.1 b (by omega)).2]
        by_cases g : fgB t0.2 i < fgB t0.2 b
        · rw [if_pos (ec.mpr g), b1_some, if_pos rfl, b1_some, if_pos (show lwT t0 (some b) i = true from decide_eq_true g)]; rfl
        · rw [if_neg (fun q => g (ec.mp q)), b1_some, if_neg (by decide), b1_some, if_neg (show ¬ lwT t0 (some b) i = true from fun q => g (of_decide_eq_true q))]; rfl) 4096 (by omega)
  rw [show f_X8_givenTo_lp1 (nI c) z 4096 (-1) 0 = _ from this, b1_some, ck_pos (ib_nI (show c < 9 by omega) (by decide)), ix_nI (by omega), (r.2.2.2 c hc).1, m_ones (by omega), b1_some, he]
  have ec := nI_leI (a := e) (b := pc8 (saB t1.2 c)) (by omega) (by omega)
  unfold pick enou
  by_cases g : e ≤ pc8 (saB t1.2 c)
  · rw [if_pos (ec.mpr g), b1_some, if_pos (decide_eq_true g)]
  · rw [if_neg (fun q => g (ec.mp q)), b1_some, if_neg (fun q => g (of_decide_eq_true q))]; rfl
theorem m_fitsGone {c : Nat} {s : Rs} {w : Nat} (r : RDm z t0 t1) (d : DOK t0 t1) (hc : c < nC t1) (hok : RsOK (nV t0) w s) (hP : PM z M s) : f_X8_fitsGone (nI c) z = some (if fgone t0 t1 c s then 1 else 0) := by
  have d1 := d.1
  unfold f_X8_fitsGone
  have := lp_up (fun n b i => f_X8_fitsGone_lp1 (nI c) z n b i) (nV t0) (fun i => if anyB (fun v => (rG s v).isSome && fit t0 t1 c v) i then (1 : Int32) else 0) _ (fun n => by
    show f_X8_fitsGone_lp1 (nI c) z (n + 1) _ _ = _
    rw [f_X8_fitsGone_lp1, r.1, if_neg Int32.lt_irrefl]) (fun n i hi => by
    show f_X8_fitsGone_lp1 (nI c) z (n + 1) _ _ = f_X8_fitsGone_lp1 (nI c) z n _ _
    have hG : opI (rG s i) = -1 ↔ rG s i = none := opI_m1 (fun x hx => by have := hok.2.2.2.1 i x hx; omega)
    rw [f_X8_fitsGone_lp1, r.1, if_pos (nI_lt hi (by omega)), nI_l1, anyB_s, ck_pos (ib_nI (show i < 8 by omega) (by decide)), ix_nI (by omega), (hP.1 i (by omega)).2.1, m_fits r d hc hi, b1_some]
    cases anyB (fun v => (rG s v).isSome && fit t0 t1 c v) i with
    | true => rfl
    | false =>
      rw [if_neg (show ¬ ¬ (if false = true then (1 : Int32) else 0) = 0 by decide)]
      cases hq : rG s i with
      | none => rw [if_neg (show ¬ ¬ opI none = -1 from fun g => g rfl), b1_some]; rfl
      | some y =>
        rw [hq] at hG
        rw [if_pos (fun g => by have := hG.mp g; cases this)]
        cases fit t0 t1 c i <;> rfl) 4096 (by omega)
  rw [show f_X8_fitsGone_lp1 (nI c) z 4096 0 0 = _ from this, b1_some]
  unfold fgone
  cases anyB (fun v => (rG s v).isSome && fit t0 t1 c v) (nV t0) <;> rfl
end RunM
