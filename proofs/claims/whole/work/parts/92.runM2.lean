/-! THE WEEKS: the reference, the whole. -/
section RunM2
variable {z : Sg} {t0 t1 : Tx} {e kp M : Nat}
theorem m_comes {s : Rs} {w k c : Nat} (r : RDm z t0 t1) (d : DOK t0 t1) (he : rI z 0 9 = nI e) (he4 : e ≤ 4) (hw : w < 40) (hk : k < 52) (hM : M ≤ 12) (hMk : k < 12 → k < M) (hc : c < nC t1) (hco : rI z 11 k = nI c) (hok : RsOK (nV t0) (w + 1) s) (hP : PM z M s) : ∃ z', f_X8_comes (nI k) (nI w) z = some z' ∧ PM z' M (serve t0 t1 e w k c s) ∧ FM z z' := by
  have d1 := d.1
  have d2 := d.2.1
  obtain ⟨p1, p2, p3⟩ := id hP
  unfold f_X8_comes serve
  rw [ck_pos (ib_nI hk (by decide)), ix_nI (by omega), hco, r.2.1, if_pos (nI_lt hc (by omega)), m_givenTo r d he he4 (show w + 1 ≤ 40 by omega) hc hok hP, b1_some, b1_some]
  cases hp : pick t0 t1 e c s with
  | some v =>
    obtain ⟨v1, v2⟩ := pick_is hp
    have hv8 : v < 8 := by omega
    rw [if_pos (show ¬ opI (some v) = -1 from nI_ne_m1 (by omega)), show opI (some v) = nI v from rfl, ck_pos (ib_nI hv8 (by decide)), ck_pos (ib_nI hv8 (by decide)), ix_nI (show v < 2 ^ 31 by omega)]
    have hc1 : ∀ z2 : Sg, (∀ u, u ≠ 0 → rI z2 u = rI (wI (wI z 13 v (nI w)) 14 v (nI c)) u) → (∀ q, q ≠ 21 → rI z2 0 q = rI z 0 q) → rI z2 0 21 = nI (bO (fun j => !bup (rV s) k j) M) → PM z2 M (srvO t0 t1 w k c s (some v)) ∧ FM z z2 := fun z2 a1 a2 a3 => by
      refine ⟨⟨fun u hu => ⟨?_, ?_, ?_⟩, a3, ?_⟩, fun u b1' b2' b3' b4' => ?_, fun q b1' b2' => a2 q b1'⟩
      · rw [a1 12 (by decide), rIf_wI, if_neg (by decide), rIf_wI, if_neg (by decide)]; exact (p1 u hu).1
      · rw [a1 13 (by decide), rIf_wI, if_neg (by decide), rI_wI]
        show _ = opI (if u = v then some w else rG s u)
        by_cases g : u = v
        · rw [if_pos ⟨rfl, g⟩, if_pos g]; rfl
        · rw [if_neg (fun q => g q.2), if_neg g]; exact (p1 u hu).2.1
      · rw [a1 14 (by decide), rI_wI]
        show _ = opI (if u = v then some c else rT s u)
        by_cases g : u = v
        · rw [if_pos ⟨rfl, g⟩, if_pos g]; rfl
        · rw [if_neg (fun q => g q.2), if_neg g, rIf_wI, if_neg (by decide)]; exact (p1 u hu).2.2
      · rw [a2 22 (by decide)]; exact p3
      · rw [a1 u b1', rIf_wI, if_neg b4', rIf_wI, if_neg b3']
    have e21 : rI (wI (wI z 13 v (nI w)) 14 v (nI c)) 0 21 = nI (bO (fun k => !rV s k) M) := by rw [rIf_wI, if_neg (by decide), rIf_wI, if_neg (by decide)]; exact p2
    by_cases g : k < 12
    · rw [if_pos (show nI k < (12 : Int32) from nI_lt (b := 12) g (by decide)), b1_some, b1_some, e21, one_shl (by omega), bO_clr _ (by omega)]
      refine ⟨_, rfl, hc1 _ (fun u hu => by rw [rIf_wI, if_neg hu]) (fun q hq => by rw [rI_wI, if_neg (fun t => hq t.2), rIf_wI, if_neg (by decide), rIf_wI, if_neg (by decide)]) ?_⟩
      rw [rI_wI, if_pos ⟨rfl, rfl⟩]
      refine congrArg nI (bO_congr _ fun j _ => ?_)
      unfold bup
      rw [Bool.not_or]
    · rw [if_neg (show ¬ nI k < (12 : Int32) from nI_nlt (b := 12) (by omega) (by omega)), b1_some, b1_some]
      refine ⟨_, rfl, hc1 _ (fun u _ => rfl) (fun q hq => by rw [rIf_wI, if_neg (by decide), rIf_wI, if_neg (by decide)]) ?_⟩
      rw [e21]
      refine congrArg nI (bO_congr _ fun j hj => ?_)
      unfold bup
      rw [decide_eq_false (show ¬ j = k by omega), Bool.or_false]
  | none =>
    rw [if_neg (show ¬ ¬ opI none = -1 from fun g => g rfl), if_pos (nI_lt hc (by omega)), p3, m_fitsGone r d hc hok hP, b1_some]
    have hS : opI (rS s) = -1 ↔ rS s = none := opI_m1 (fun x hx => by have := hok.2.2.2.2.2 x hx; omega)
    show ∃ z', _ ∧ PM z' M (if (rS s).isNone && fgone t0 t1 c s then (rC s, rG s, rT s, rV s, some k) else s) ∧ _
    by_cases g1 : rS s = none
    · rw [if_pos (hS.mpr g1)]
      cases g2 : fgone t0 t1 c s with
      | true =>
        have g3 : ((rS s).isNone && true) = true := by rw [g1]; rfl
        rw [if_pos rfl, if_pos ne10, b1_some, if_pos rfl, b1_some, b1_some, if_pos g3]
        refine ⟨_, rfl, ⟨fun u hu => ?_, ?_, ?_⟩, fun u b1' b2' b3' b4' => by rw [rIf_wI, if_neg b1'], fun q b1' b2' => by rw [rI_wI, if_neg (fun t => b2' t.2)]⟩
        · rw [rIf_wI, if_neg (by decide), rIf_wI, if_neg (by decide), rIf_wI, if_neg (by decide)]; exact p1 u hu
        · rw [rI_wI, if_neg (fun t => absurd t.2 (by decide))]; exact p2
        · rw [rI_wI, if_pos ⟨rfl, rfl⟩]; rfl
      | false =>
        rw [if_neg (show ¬ ¬ (if false = true then (1 : Int32) else 0) = 0 by decide), b1_some, if_neg (by decide), b1_some, b1_some, Bool.and_false, if_neg (by decide)]
        exact ⟨z, rfl, hP, FM.refl z⟩
    · rw [if_neg (fun q => g1 (hS.mp q)), b1_some, if_neg (by decide), b1_some, b1_some]
      have : ((rS s).isNone && fgone t0 t1 c s) = false := by
        cases hq : rS s with
        | none => exact absurd hq g1
        | some x => rfl
      rw [this, if_neg (by decide)]
      exact ⟨z, rfl, hP, FM.refl z⟩
/-- the claims that are told, as the reference has them -/
def CM (z : Sg) (cw co : Nat → Nat) (n : Nat) : Prop := ∀ k, k < n → rI z 10 k = nI (cw k) ∧ rI z 11 k = nI (co k) ∧ cw k < 40 ∧ co k < 8
theorem CM.of {z z' : Sg} {cw co : Nat → Nat} {n : Nat} (h : CM z cw co n) (f : FM z z') : CM z' cw co n := by
  unfold CM at *
  rw [f.1 10 (by decide) (by decide) (by decide) (by decide), f.1 11 (by decide) (by decide) (by decide) (by decide)]
  exact h
theorem m_lp5r {cw co : Nat → Nat} {w r' n : Nat} (d : DOK t0 t1) (he4 : e ≤ 4) (hw : w < 40) (hr : r' < 10) (hn : n ≤ 52) (hM : M = if n < 12 then n else 12) : ∀ (dd k fu : Nat) (z : Sg) (s : Rs), k + dd = n → RDm z t0 t1 → rI z 0 9 = nI e → CM z cw co n → RsOK (nV t0) (w + 1) s → PM z M s → ∃ z', f_X8_runs_lp5 (nI n) (nI w) (nI r') (fu + 1 + dd) (nI k) z = some z' ∧ RsOK (nV t0) (w + 1) (fo (clS t0 t1 e (clN t1 cw co n) w r') dd k s) ∧ PM z' M (fo (clS t0 t1 e (clN t1 cw co n) w r') dd k s) ∧ FM z z'
  | 0, k, fu, z, s, hk, r, he, hC, hok, hP => by
    obtain rfl : k = n := by omega
    refine ⟨z, ?_, hok, hP, FM.refl z⟩
    rw [show fu + 1 + 0 = fu + 1 from rfl, f_X8_runs_lp5, if_neg Int32.lt_irrefl]
  | dd + 1, k, fu, z, s, hk, r, he, hC, hok, hP => by
    have d2 := d.2.1
    obtain ⟨c1, c2, c3, c4⟩ := hC k (by omega)
    have hCl : ClOK t1 (clN t1 cw co n) := clN_ok hn (fun i hi => (hC i hi).2.2.1)
    have ew : nI (cw k) = nI w ↔ cw k = w := nI_eq (by omega) (by omega)
    have hok2 : RsOK (nV t0) (w + 1) (clS t0 t1 e (clN t1 cw co n) w r' k s) := hok.cs_ok hw hCl d2 r' k
    have stp : ∃ z2, (b1 (ck (ib (nI k) 52) (if nI (co k) < nI (nC t1) then b1 (ck (ib (nI k) 52) (ck (ib (nI (co k)) 9) (if rI z 7 (ix (nI (co k))) = nI r' then some (1 : Int32) else some (0 : Int32)))) fun x45 => some x45 else b1 (if nI r' = 0 then some (1 : Int32) else some (0 : Int32)) fun x41 => some x41)) fun x23 => b1 (ck (ib (nI k) 52) (if nI (cw k) = nI w then if ¬ x23 = 0 then some true else some false else some false)) fun q29 => if q29 = true then b1 (f_X8_comes (nI k) (nI w) z) fun z35 => some z35 else some z) = some z2 ∧ PM z2 M (clS t0 t1 e (clN t1 cw co n) w r' k s) ∧ FM z z2 := by
      rw [ck_pos (ib_nI (show k < 52 by omega) (by decide)), ck_pos (ib_nI (show k < 52 by omega) (by decide)), ck_pos (ib_nI (show co k < 9 by omega) (by decide)), ix_nI (by omega)]
      have ecl : clS t0 t1 e (clN t1 cw co n) w r' k s = if co k < nC t1 ∧ cw k = w ∧ fgB t1.2 (co k) = r' then serve t0 t1 e w k (co k) s else s := by
        unfold clS clN
        by_cases g : co k < nC t1
        · rw [if_pos ⟨by omega, g⟩]
          show (if cw k = w ∧ fgB t1.2 (co k) = r' then serve t0 t1 e w k (co k) s else s) = _
          by_cases g2 : cw k = w ∧ fgB t1.2 (co k) = r'
          · rw [if_pos g2, if_pos ⟨g, g2⟩]
          · rw [if_neg g2, if_neg (fun q => g2 q.2)]
        · rw [if_neg (fun q => g q.2), if_neg (fun q => g q.1)]; rfl
      rw [ecl]
      by_cases g : co k < nC t1
      · have hf := d.2.2.2 _ g
        have er : nI (fgB t1.2 (co k)) = nI r' ↔ fgB t1.2 (co k) = r' := nI_eq (by omega) (by omega)
        rw [if_pos (nI_lt g (by omega)), (r.2.2.2 _ g).2.2]
        by_cases g3 : fgB t1.2 (co k) = r'
        · rw [if_pos (er.mpr g3), b1_some, b1_some, ck_pos (ib_nI (show k < 52 by omega) (by decide))]
          by_cases g2 : cw k = w
          · obtain ⟨z2, e2, p2, f2⟩ := m_comes (k := k) r d he he4 hw (by omega) (show M ≤ 12 by rw [hM]; split <;> omega) (fun h => by rw [hM]; split <;> omega) g c2 hok hP
            rw [if_pos (ew.mpr g2), if_pos ne10, b1_some, if_pos rfl, e2, b1_some, if_pos ⟨g, g2, g3⟩]
            exact ⟨z2, rfl, p2, f2⟩
          · rw [if_neg (fun q => g2 (ew.mp q)), b1_some, if_neg (by decide), if_neg (show ¬ (co k < nC t1 ∧ cw k = w ∧ fgB t1.2 (co k) = r') from fun q => g2 q.2.1)]
            exact ⟨z, rfl, hP, FM.refl z⟩
        · rw [if_neg (fun q => g3 (er.mp q)), b1_some, b1_some, ck_pos (ib_nI (show k < 52 by omega) (by decide)), if_neg (show ¬ ¬ (0 : Int32) = 0 by decide), if_neg (show ¬ (co k < nC t1 ∧ cw k = w ∧ fgB t1.2 (co k) = r') from fun q => g3 q.2.2)]
          refine ⟨z, ?_, hP, FM.refl z⟩
          by_cases g2 : cw k = w
          · rw [if_pos (ew.mpr g2), b1_some, if_neg (by decide)]
          · rw [if_neg (fun q => g2 (ew.mp q)), b1_some, if_neg (by decide)]
      · rw [if_neg (nI_nlt (by omega) (by omega)), if_neg (show ¬ (co k < nC t1 ∧ cw k = w ∧ fgB t1.2 (co k) = r') from fun q => g q.1)]
        have hcm : f_X8_comes (nI k) (nI w) z = some z := by
          unfold f_X8_comes
          rw [ck_pos (ib_nI (show k < 52 by omega) (by decide)), ix_nI (by omega), c2, r.2.1, if_neg (nI_nlt (by omega) (by omega)), b1_some, if_neg (by decide), if_neg (nI_nlt (by omega) (by omega)), b1_some, if_neg (by decide), b1_some, b1_some]
        refine ⟨z, ?_, hP, FM.refl z⟩
        rw [hcm, b1_some]
        by_cases g4 : nI r' = 0
        · rw [if_pos g4, b1_some, b1_some, ck_pos (ib_nI (show k < 52 by omega) (by decide))]
          by_cases g2 : cw k = w
          · rw [if_pos (ew.mpr g2), if_pos ne10, b1_some, if_pos rfl]
          · rw [if_neg (fun q => g2 (ew.mp q)), b1_some, if_neg (by decide)]
        · rw [if_neg g4, b1_some, b1_some, ck_pos (ib_nI (show k < 52 by omega) (by decide)), if_neg (show ¬ ¬ (0 : Int32) = 0 by decide)]
          by_cases g2 : cw k = w
          · rw [if_pos (ew.mpr g2), b1_some, if_neg (by decide)]
          · rw [if_neg (fun q => g2 (ew.mp q)), b1_some, if_neg (by decide)]
    obtain ⟨z2, e2, p2, f2⟩ := stp
    obtain ⟨z3, e3, o3, p3, f3⟩ := m_lp5r d he4 hw hr hn hM dd (k + 1) fu z2 (clS t0 t1 e (clN t1 cw co n) w r' k s) (by omega) (f2.rd r) (by rw [f2.2 9 (by decide) (by decide)]; exact he) (hC.of f2) hok2 p2
    refine ⟨z3, ?_, o3, p3, f2.trans f3⟩
    rw [show fu + 1 + (dd + 1) = (fu + 1 + dd) + 1 by omega, f_X8_runs_lp5, if_pos (nI_lt (show k < n by omega) (by omega)), ix_nI (by omega), c1, c2, r.2.1, nI_l1, ← e3, ← b1_some (k := fun z28 => f_X8_runs_lp5 (nI n) (nI w) (nI r') (fu + 1 + dd) (nI (k + 1)) z28), ← e2, b1_b1]
theorem m_lp5w {cw co : Nat → Nat} {w r' n : Nat} {s : Rs} (d : DOK t0 t1) (he4 : e ≤ 4) (hw : w < 40) (hr : r' < 10) (hn : n ≤ 52) (hM : M = if n < 12 then n else 12) (r : RDm z t0 t1) (he : rI z 0 9 = nI e) (hC : CM z cw co n) (hok : RsOK (nV t0) (w + 1) s) (hP : PM z M s) : ∃ z', f_X8_runs_lp5 (nI n) (nI w) (nI r') 4096 0 z = some z' ∧ RsOK (nV t0) (w + 1) (fo (clS t0 t1 e (clN t1 cw co n) w r') 64 0 s) ∧ PM z' M (fo (clS t0 t1 e (clN t1 cw co n) w r') 64 0 s) ∧ FM z z' := by
  obtain ⟨z', e', o', p', f'⟩ := m_lp5r d he4 hw hr hn hM n 0 (4095 - n) z s (by omega) r he hC hok hP
  rw [show 4095 - n + 1 + n = 4096 by omega, nI_0] at e'
  have : fo (clS t0 t1 e (clN t1 cw co n) w r') 64 0 s = fo (clS t0 t1 e (clN t1 cw co n) w r') n 0 s := by
    rw [show 64 = n + (64 - n) by omega, fo_split, fo_id]
    intro j a h1 h2
    unfold clS clN
    rw [if_neg (fun q => by omega)]
    rfl
  rw [this]
  exact ⟨z', e', o', p', f'⟩
theorem m_lp4r {cw co : Nat → Nat} {w n : Nat} (d : DOK t0 t1) (he4 : e ≤ 4) (hw : w < 40) (hn : n ≤ 52) (hM : M = if n < 12 then n else 12) : ∀ (dd k fu : Nat) (z : Sg) (s : Rs), k + dd = 10 → RDm z t0 t1 → rI z 0 9 = nI e → CM z cw co n → RsOK (nV t0) (w + 1) s → PM z M s → ∃ z', f_X8_runs_lp4 (nI n) (nI w) (fu + 1 + dd) (nI k) z = some z' ∧ RsOK (nV t0) (w + 1) (fo (fun r => fo (clS t0 t1 e (clN t1 cw co n) w r) 64 0) dd k s) ∧ PM z' M (fo (fun r => fo (clS t0 t1 e (clN t1 cw co n) w r) 64 0) dd k s) ∧ FM z z'
  | 0, k, fu, z, s, hk, r, he, hC, hok, hP => by
    obtain rfl : k = 10 := by omega
    refine ⟨z, ?_, hok, hP, FM.refl z⟩
    rw [show fu + 1 + 0 = fu + 1 from rfl, f_X8_runs_lp4, if_neg (show ¬ nI 10 < (10 : Int32) from Int32.lt_irrefl)]
  | dd + 1, k, fu, z, s, hk, r, he, hC, hok, hP => by
    obtain ⟨z2, e2, o2, p2, f2⟩ := m_lp5w d he4 hw (show k < 10 by omega) hn hM r he hC hok hP
    obtain ⟨z3, e3, o3, p3, f3⟩ := m_lp4r d he4 hw hn hM dd (k + 1) fu z2 _ (by omega) (f2.rd r) (by rw [f2.2 9 (by decide) (by decide)]; exact he) (hC.of f2) o2 p2
    refine ⟨z3, ?_, o3, p3, f2.trans f3⟩
    rw [show fu + 1 + (dd + 1) = (fu + 1 + dd) + 1 by omega, f_X8_runs_lp4, if_pos (show nI k < (10 : Int32) from nI_lt (b := 10) (by omega) (by decide)), e2, b1_some, nI_l1]
    exact e3
theorem m_sell {w : Nat} {s : Rs} (r : RDm z t0 t1) (d1 : nV t0 ≤ 8) (hw : w < 40) (hk : rI z 0 11 = nI kp) (hk9 : kp ≤ 9) (hk1 : 1 ≤ kp) (hok : RsOK (nV t0) (w + 1) s) (hP : PM z M s) : ∃ z', f_X8_runs_lp6 (nI w) 4096 0 z = some z' ∧ PM z' M (sell kp w s) ∧ FM z z' := by
  obtain ⟨p1, p2, p3⟩ := id hP
  have key := lp_fo (fun m i z => f_X8_runs_lp6 (nI w) m i z) (nV t0) (fun i z => wI z 13 i (opI (rG (sell kp w s) i))) (fun z => z) (fun i z' => (∀ v, v < 8 → rI z' 13 v = if v < i then opI (rG (sell kp w s) v) else opI (rG s v)) ∧ (∀ u, u ≠ 13 → rI z' u = rI z u)) (fun m z' hP => by
    show f_X8_runs_lp6 _ (m + 1) _ z' = some z'
    rw [f_X8_runs_lp6, hP.2 0 (by decide), r.1, if_neg Int32.lt_irrefl]) (fun m i z' hi hQ => by
    obtain ⟨q1, q2⟩ := hQ
    refine ⟨?_, fun v hv => ?_, fun u hu => ?_⟩
    · show f_X8_runs_lp6 _ (m + 1) _ z' = f_X8_runs_lp6 _ m _ _
      have hC : opI (rC s i) = -1 ↔ rC s i = none := opI_m1 (fun x hx => by have := (hok.1 i x hx).1; omega)
      have hG : opI (rG s i) = -1 ↔ rG s i = none := opI_m1 (fun x hx => by have := hok.2.2.2.1 i x hx; omega)
      have hg : rI z' 13 i = opI (rG s i) := by rw [q1 i (by omega), if_neg (by omega)]
      have hx : (ck (ib (nI i) 8) (if ¬ rI z' 12 (ix (nI i)) = (-1 : Int32) then ck (ib (nI i) 8) (if rI z' 13 (ix (nI i)) = (-1 : Int32) then ck (ib (nI i) 8) (if ((nI w - rI z' 12 (ix (nI i))) + (1 : Int32)) = rI z' 0 11 then some (1 : Int32) else some (0 : Int32)) else some (0 : Int32)) else some (0 : Int32))) = some (if slB kp w s i then 1 else 0) := by
        rw [ck_pos (ib_nI (show i < 8 by omega) (by decide)), ck_pos (ib_nI (show i < 8 by omega) (by decide)), ck_pos (ib_nI (show i < 8 by omega) (by decide)), ix_nI (by omega), hg, q2 12 (by decide), q2 0 (by decide), hk, (p1 i (by omega)).1]
        unfold slB onS
        cases hq : rC s i with
        | none => rw [if_neg (show ¬ ¬ opI none = -1 from fun g => g rfl)]; rfl
        | some x =>
          have hxw := (hok.1 i x hq).1
          rw [hq] at hC
          rw [if_pos (fun g => by have := hC.mp g; cases this)]
          cases hq2 : rG s i with
          | some y =>
            rw [hq2] at hG
            rw [if_neg (fun g => by have := hG.mp g; cases this)]
            rfl
          | none =>
            rw [if_pos (show opI none = -1 from rfl), show opI (some x) = nI x from rfl, pk_sub (show x ≤ w by omega), nI_l1]
            have en := nI_eq (a := w - x + 1) (b := kp) (by omega) (by omega)
            by_cases g : w - x + 1 = kp
            · rw [if_pos (en.mpr g), decide_eq_true (show kp ≤ w + 1 by omega), decide_eq_true (show some x = some (w + 1 - kp) by rw [show w + 1 - kp = x by omega])]; rfl
            · rw [if_neg (fun q => g (en.mp q))]
              by_cases g2 : kp ≤ w + 1
              · rw [decide_eq_false (show ¬ some x = some (w + 1 - kp) from fun q => by have := Option.some.inj q; omega), Bool.and_false, Bool.and_false]; rfl
              · rw [decide_eq_false g2, Bool.false_and, Bool.and_false]; rfl
      rw [f_X8_runs_lp6, q2 0 (by decide), r.1, if_pos (nI_lt hi (by omega)), ← q2 0 (by decide), hx, b1_some, nI_l1, ck_pos (ib_nI (show i < 8 by omega) (by decide)), ix_nI (by omega), hg]
      show b1 (if ¬ (if slB kp w s i = true then (1 : Int32) else 0) = 0 then some (nI w) else some (opI (rG s i))) _ = f_X8_runs_lp6 (nI w) m (nI (i + 1)) (wI z' 13 i (opI (if slB kp w s i = true then some w else rG s i)))
      cases slB kp w s i with
      | true => rw [if_pos rfl, if_pos rfl, if_pos ne10, b1_some, ck_pos (ib_nI (show i < 8 by omega) (by decide))]; rfl
      | false => rw [if_neg (show ¬ ¬ (if false = true then (1 : Int32) else 0) = 0 by decide), b1_some, ck_pos (ib_nI (show i < 8 by omega) (by decide)), if_neg (by decide)]
    · rw [rI_wI]
      by_cases g : v = i
      · rw [if_pos ⟨rfl, g⟩, if_pos (by omega), g]
      · rw [if_neg (fun q => g q.2), q1 v hv]
        by_cases g2 : v < i
        · rw [if_pos g2, if_pos (by omega)]
        · rw [if_neg g2, if_neg (by omega)]
    · rw [rIf_wI, if_neg hu]; exact q2 u hu) (nV t0) 0 4096 z (by omega) (by omega) ⟨fun v hv => by rw [if_neg (by omega)]; exact (p1 v hv).2.1, fun _ _ => rfl⟩
  obtain ⟨k1, k2, k3⟩ := key
  rw [nI_0] at k1
  refine ⟨_, k1, ⟨fun v hv => ⟨?_, ?_, ?_⟩, ?_, ?_⟩, fun u _ _ h _ => k3 u h, fun k _ _ => by rw [k3 0 (by decide)]⟩
  · rw [k3 12 (by decide)]; exact (p1 v hv).1
  · rw [k2 v hv]
    by_cases g : v < nV t0
    · rw [if_pos g]
    · rw [if_neg g]
      show _ = opI (if slB kp w s v then some w else rG s v)
      rw [if_neg]
      intro q
      unfold slB at q
      rw [Bool.and_eq_true] at q
      have := (onS_is q.1).1
      cases hc : rC s v with
      | none => exact this hc
      | some c => exact g (hok.1 v c hc).2
  · rw [k3 14 (by decide)]; exact (p1 v hv).2.2
  · rw [k3 0 (by decide)]; exact p2
  · rw [k3 0 (by decide)]; exact p3
def HM (z : Sg) (hw hv : Nat → Nat) (n : Nat) : Prop := ∀ k, k < n → rI z 8 k = nI (hw k) ∧ rI z 9 k = nI (hv k) ∧ hw k < 40 ∧ hv k < 8
theorem HM.of {z z' : Sg} {hw hv : Nat → Nat} {n : Nat} (h : HM z hw hv n) (f : FM z z') : HM z' hw hv n := by
  unfold HM at *
  rw [f.1 8 (by decide) (by decide) (by decide) (by decide), f.1 9 (by decide) (by decide) (by decide) (by decide)]
  exact h
theorem m_lp2r {hw hv cw co : Nat → Nat} {hn n N : Nat} (d : DOK t0 t1) (he4 : e ≤ 4) (hk9 : kp ≤ 9) (hk1 : 1 ≤ kp) (hh : hn ≤ 52) (hc : n ≤ 52) (hM : M = if n < 12 then n else 12) (hN : N ≤ 40) : ∀ (dd w fu : Nat) (z : Sg), w + dd = N → RDm z t0 t1 → rI z 0 9 = nI e → rI z 0 11 = nI kp → HM z hw hv hn → CM z cw co n → PM z M (rn t0 t1 e kp (hdN t0 hw hv hn) (clN t1 cw co n) w) → ∃ z', f_X8_runs_lp2 (nI N + (-1 : Int32)) (nI hn) (nI n) (fu + 1 + dd) (nI w) z = some z' ∧ PM z' M (rn t0 t1 e kp (hdN t0 hw hv hn) (clN t1 cw co n) N) ∧ FM z z'
  | 0, w, fu, z, hw', r, he, hk, hH, hC, hP => by
    obtain rfl : w = N := by omega
    refine ⟨z, ?_, hP, FM.refl z⟩
    have hno : ¬ nI w ≤ nI w + (-1 : Int32) := by
      cases w with
      | zero => decide
      | succ w => rw [nI_m1]; exact nI_ge (by omega) (by omega)
    rw [show fu + 1 + 0 = fu + 1 from rfl, f_X8_runs_lp2, if_neg hno]
  | dd + 1, w, fu, z, hw', r, he, hk, hH, hC, hP => by
    obtain ⟨N', rfl⟩ : ∃ N', N = N' + 1 := ⟨N - 1, by omega⟩
    have hCl : ClOK t1 (clN t1 cw co n) := clN_ok hc (fun i hi => (hC i hi).2.2.1)
    have hHd : ∀ w v, hdN t0 hw hv hn w v = true → v < nV t0 := fun w v q => by
      unfold hdN at q
      rw [Bool.and_eq_true] at q
      exact of_decide_eq_true q.1
    have hok := rn_ok (t0 := t0) (e := e) (kp := kp) (n := nV t0) hCl d.2.1 hHd w (by omega)
    obtain ⟨za, ea, pa, fa⟩ := m_hands r d.1 (show w < 40 by omega) hh hH hok hP
    have hok1 := hok.br_ok (Hd := hdN t0 hw hv hn) (hHd w)
    obtain ⟨zb, eb, ob, pb, fb⟩ := m_lp4r (e := e) d he4 (show w < 40 by omega) hc hM 10 0 4085 za _ rfl (fa.rd r) (by rw [fa.2 9 (by decide) (by decide)]; exact he) (hC.of fa) hok1 pa
    have fab := fa.trans fb
    obtain ⟨zc, ec, pc, fc⟩ := m_sell (kp := kp) (fab.rd r) d.1 (show w < 40 by omega) (by rw [fab.2 11 (by decide) (by decide)]; exact hk) hk9 hk1 ob pb
    have fabc := fab.trans fc
    have hrn : sell kp w (fo (fun r => fo (clS t0 t1 e (clN t1 cw co n) w r) 64 0) 10 0 (bring (hdN t0 hw hv hn) w (rn t0 t1 e kp (hdN t0 hw hv hn) (clN t1 cw co n) w))) = rn t0 t1 e kp (hdN t0 hw hv hn) (clN t1 cw co n) (w + 1) := (rn_s t0 t1 e kp _ _ w).symm
    rw [hrn] at pc
    obtain ⟨zd, ed, pd, fd⟩ := m_lp2r d he4 hk9 hk1 hh hc hM hN dd (w + 1) fu zc (by omega) (fabc.rd r) (by rw [fabc.2 9 (by decide) (by decide)]; exact he) (by rw [fabc.2 11 (by decide) (by decide)]; exact hk) (hH.of fabc) (hC.of fabc) pc
    refine ⟨zd, ?_, pd, fabc.trans fd⟩
    rw [nI_0] at eb
    rw [show fu + 1 + (dd + 1) = (fu + 1 + dd) + 1 by omega, f_X8_runs_lp2, if_pos (show nI w ≤ nI (N' + 1) + (-1 : Int32) by rw [nI_m1]; exact nI_le (by omega) (by omega)), ea, b1_some, eb, b1_some, ec, b1_some, nI_l1]
    exact ed
theorem m_runs {hw hv cw co : Nat → Nat} {hn n N : Nat} (r : RDm z t0 t1) (d : DOK t0 t1) (he : rI z 0 9 = nI e) (he4 : e ≤ 4) (hk : rI z 0 11 = nI kp) (hk9 : kp ≤ 9) (hk1 : 1 ≤ kp) (hh : hn ≤ 52) (hc : n ≤ 52) (hN : N ≤ 40) (hH : HM z hw hv hn) (hC : CM z cw co n) : ∃ z', f_X8_runs (nI N + (-1 : Int32)) (nI hn) (nI n) z = some z' ∧ PM z' (if n < 12 then n else 12) (rn t0 t1 e kp (hdN t0 hw hv hn) (clN t1 cw co n) N) ∧ FM z z' := by
  obtain ⟨z1, e1, p1, f1⟩ := m_begin (z := z)
  have hM12 : (if n < 12 then n else 12) ≤ 12 := by split <;> omega
  have ex : (if nI n < (12 : Int32) then some (nI n) else some (12 : Int32)) = some (nI (if n < 12 then n else 12)) := by
    by_cases g : n < 12
    · rw [if_pos (show nI n < (12 : Int32) from nI_lt (b := 12) g (by decide)), if_pos g]
    · rw [if_neg (show ¬ nI n < (12 : Int32) from nI_nlt (b := 12) (by omega) (by omega)), if_neg g]; rfl
  generalize hMe : (if n < 12 then n else 12) = M at *
  have f2 : FM z (wI (wI z1 0 21 (nI (2 ^ M - 1))) 0 22 (-1)) := ⟨fun u a b c d => by rw [rIf_wI, if_neg a, rIf_wI, if_neg a]; exact f1 u b c d, fun k a b => by rw [rI_wI, if_neg (fun t => b t.2), rI_wI, if_neg (fun t => a t.2), f1 0 (by decide) (by decide) (by decide)]⟩
  obtain ⟨z3, e3, p3, f3⟩ := m_lp2r (e := e) (kp := kp) (M := M) (hw := hw) (hv := hv) (cw := cw) (co := co) d he4 hk9 hk1 hh hc hMe.symm hN N 0 (4095 - N) (wI (wI z1 0 21 (nI (2 ^ M - 1))) 0 22 (-1)) (by omega) (f2.rd r) (by rw [f2.2 9 (by decide) (by decide)]; exact he) (by rw [f2.2 11 (by decide) (by decide)]; exact hk) (hH.of f2) (hC.of f2) ⟨fun v hv' => by
    rw [rIf_wI, if_neg (by decide), rIf_wI, if_neg (by decide), rIf_wI, if_neg (by decide), rIf_wI, if_neg (by decide), rIf_wI, if_neg (by decide), rIf_wI, if_neg (by decide)]
    exact p1 v hv', by rw [rI_wI, if_neg (fun t => absurd t.2 (by decide)), rI_wI, if_pos ⟨rfl, rfl⟩, ← bO_all]; rfl, by rw [rI_wI, if_pos ⟨rfl, rfl⟩]; rfl⟩
  rw [show 4095 - N + 1 + N = 4096 by omega, nI_0] at e3
  refine ⟨z3, ?_, p3, f2.trans f3⟩
  have p0 : 0 < 2 ^ M := Nat.pow_pos (by decide)
  unfold f_X8_runs
  rw [e1, b1_some, ex, b1_some, one_shl (by omega), show nI (2 ^ M) - (1 : Int32) = nI (2 ^ M - 1) from pk_sub (b := 1) p0, e3, b1_some]
end RunM2
