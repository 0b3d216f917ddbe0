/-! WEEKS: the lots, and the same weeks by other numbers of the claims. -/
theorem fo_rel {α : Type} {F G : Nat → α → α} (R : α → α → Prop) : ∀ (k i : Nat) (a b : α), R a b → (∀ j a b, i ≤ j → j < i + k → R a b → R (F j a) (G j b)) → R (fo F k i a) (fo G k i b)
  | 0, _, _, _, h, _ => h
  | k + 1, i, a, b, h, hs => fo_rel R k (i + 1) (F i a) (G i b) (hs i a b (Nat.le_refl i) (by omega) h) (fun j a b h1 h2 => hs j a b (by omega) (by omega))
/-- alike but for who was served and the saint -/
def eqv (s s' : Rs) : Prop := rC s = rC s' ∧ rG s = rG s' ∧ rT s = rT s'
theorem eqv_on {s s' : Rs} (h : eqv s s') : onS s = onS s' := by
  funext v
  unfold onS
  rw [h.1, h.2.1]
theorem eqv_pick {t0 t1 : Tx} {e c : Nat} {s s' : Rs} (h : eqv s s') : pick t0 t1 e c s = pick t0 t1 e c s' := by
  unfold pick
  rw [eqv_on h]
theorem eqv_serve {t0 t1 : Tx} {e w i i' c : Nat} {s s' : Rs} (h : eqv s s') : eqv (serve t0 t1 e w i c s) (serve t0 t1 e w i' c s') := by
  unfold serve
  rw [eqv_pick h]
  cases pick t0 t1 e c s' with
  | some v =>
    refine ⟨h.1, ?_, ?_⟩
    · show oup (rG s) v w = oup (rG s') v w
      rw [h.2.1]
    · show oup (rT s) v c = oup (rT s') v c
      rw [h.2.2]
  | none =>
    have : ∀ (s : Rs) (b : Bool) (i : Nat), eqv (if b then (rC s, rG s, rT s, rV s, some i) else s) s := fun s b i => by
      cases b
      · rw [if_neg (by decide)]; exact ⟨rfl, rfl, rfl⟩
      · rw [if_pos rfl]; exact ⟨rfl, rfl, rfl⟩
    have a1 := this s ((rS s).isNone && fgone t0 t1 c s) i
    have a2 := this s' ((rS s').isNone && fgone t0 t1 c s') i'
    exact ⟨a1.1.trans (h.1.trans a2.1.symm), a1.2.1.trans (h.2.1.trans a2.2.1.symm), a1.2.2.trans (h.2.2.trans a2.2.2.symm)⟩
theorem eqv_bring {Hd : Nat → Nat → Bool} {w : Nat} {s s' : Rs} (h : eqv s s') : eqv (bring Hd w s) (bring Hd w s') := by
  refine ⟨?_, h.2.1, h.2.2⟩
  show (fun v => if (rC s v).isNone && Hd w v then some w else rC s v) = fun v => if (rC s' v).isNone && Hd w v then some w else rC s' v
  rw [h.1]
theorem eqv_sell {kp w : Nat} {s s' : Rs} (h : eqv s s') : eqv (sell kp w s) (sell kp w s') := by
  refine ⟨h.1, ?_, h.2.2⟩
  show (fun v => if slB kp w s v then some w else rG s v) = fun v => if slB kp w s' v then some w else rG s' v
  have : slB kp w s = slB kp w s' := by
    funext v
    unfold slB
    rw [eqv_on h, h.1]
  rw [this, h.2.1]
/-- a list, then another -/
def apf (f : Nat → Nat) (n : Nat) (g : Nat → Nat) : Nat → Nat := fun k => if k < n then f k else g (k - n)
theorem apf_l {f g : Nat → Nat} {n k : Nat} (h : k < n) : apf f n g k = f k := if_pos h
theorem apf_r {f g : Nat → Nat} {n k : Nat} (h : n ≤ k) : apf f n g k = g (k - n) := if_neg (by omega)
/-- the class's numbers of claims: those told, and lots from 12 on -/
def clX (t1 : Tx) (cw co : Nat → Nat) (m : Nat) (lc : Nat → Nat) (n : Nat) : Nat → Option (Nat × Nat) := fun i => if 12 ≤ i ∧ i < 12 + n then (if lc (i - 12) < nC t1 then some (i - 12, lc (i - 12)) else none) else clN t1 cw co m i
theorem clX_0 (t1 : Tx) (cw co : Nat → Nat) (m : Nat) (lc : Nat → Nat) : clX t1 cw co m lc 0 = clN t1 cw co m := by
  funext i
  show (if 12 ≤ i ∧ i < 12 + 0 then _ else clN t1 cw co m i) = _
  rw [if_neg (by omega)]
theorem clX_s (t1 : Tx) (cw co : Nat → Nat) (m : Nat) (lc : Nat → Nat) (n : Nat) : clX t1 cw co m lc (n + 1) = clU t1 (clX t1 cw co m lc n) (12 + n) n (lc n) := by
  funext i
  show (if 12 ≤ i ∧ i < 12 + (n + 1) then (if lc (i - 12) < nC t1 then some (i - 12, lc (i - 12)) else none) else clN t1 cw co m i) = if i = 12 + n then (if lc n < nC t1 then some (n, lc n) else none) else if 12 ≤ i ∧ i < 12 + n then (if lc (i - 12) < nC t1 then some (i - 12, lc (i - 12)) else none) else clN t1 cw co m i
  by_cases g : i = 12 + n
  · rw [if_pos g, if_pos (by omega), show i - 12 = n by omega]
  · rw [if_neg g]
    by_cases g2 : 12 ≤ i ∧ i < 12 + n
    · rw [if_pos g2, if_pos (by omega)]
    · rw [if_neg g2, if_neg (by omega)]
theorem clX_ok {t1 : Tx} {cw co : Nat → Nat} {m : Nat} {lc : Nat → Nat} {n : Nat} (hm : m ≤ 12) (hn : n ≤ 40) (hw : ∀ i, i < m → cw i < 40) : ClOK t1 (clX t1 cw co m lc n) := by
  intro i w c h
  unfold clX at h
  by_cases g : 12 ≤ i ∧ i < 12 + n
  · rw [if_pos g] at h
    by_cases g2 : lc (i - 12) < nC t1
    · rw [if_pos g2] at h
      cases h
      exact ⟨by omega, by omega, g2⟩
    · rw [if_neg g2] at h; cases h
  · rw [if_neg g] at h
    exact clN_ok (by omega) hw i w c h
theorem rn_0 (t0 t1 : Tx) (e kp : Nat) (Hd : Nat → Nat → Bool) (Cl : Nat → Option (Nat × Nat)) : rn t0 t1 e kp Hd Cl 0 = rs0 := rfl
section Lots
variable {t0 t1 : Tx} {e kp : Nat} {Hd : Nat → Nat → Bool} {cw co lc : Nat → Nat} {m n : Nat}
theorem eqv_clS {w r : Nat} (hm : m ≤ 12) (hn : n ≤ 40) (hw : w < n) (hl : ∀ w, w < n → lc w < nC t1) {s s' : Rs} (h : eqv s s') : eqv (fo (clS t0 t1 e (clX t1 cw co m lc n) w r) 64 0 s) (fo (clS t0 t1 e (clN t1 (apf cw m id) (apf co m lc) (m + n)) w r) 64 0 s') := by
  rw [show 64 = m + (64 - m) by omega, fo_split, fo_split, Nat.zero_add]
  have h1 : eqv (fo (clS t0 t1 e (clX t1 cw co m lc n) w r) m 0 s) (fo (clS t0 t1 e (clN t1 (apf cw m id) (apf co m lc) (m + n)) w r) m 0 s') := by
    refine fo_rel eqv m 0 s s' h (fun j a b _ hj hab => ?_)
    have e1 : clX t1 cw co m lc n j = clN t1 cw co m j := by unfold clX; rw [if_neg (by omega)]
    have e2 : clN t1 (apf cw m id) (apf co m lc) (m + n) j = clN t1 cw co m j := by
      unfold clN
      rw [apf_l (by omega), apf_l (by omega)]
      by_cases g : j < m ∧ co j < nC t1
      · rw [if_pos g, if_pos ⟨by omega, g.2⟩]
      · rw [if_neg g, if_neg (fun q => g ⟨by omega, q.2⟩)]
    unfold clS
    rw [e1, e2]
    cases clN t1 cw co m j with
    | none => exact hab
    | some x =>
      obtain ⟨w', c⟩ := x
      show eqv (if w' = w ∧ fgB t1.2 c = r then serve t0 t1 e w j c a else a) (if w' = w ∧ fgB t1.2 c = r then serve t0 t1 e w j c b else b)
      split
      · exact eqv_serve hab
      · exact hab
  have hlw := hl w hw
  rw [fo_one (clS t0 t1 e (clX t1 cw co m lc n) w r) (p := 12 + w) _ (by omega) (by omega) (fun j a q1 q2 q3 => by
    unfold clS clX
    by_cases g : 12 ≤ j ∧ j < 12 + n
    · rw [if_pos g]
      by_cases g2 : lc (j - 12) < nC t1
      · rw [if_pos g2]
        show (if j - 12 = w ∧ fgB t1.2 (lc (j - 12)) = r then serve t0 t1 e w j (lc (j - 12)) a else a) = a
        rw [if_neg (fun q => by omega)]
      · rw [if_neg g2]; rfl
    · rw [if_neg g]
      unfold clN
      rw [if_neg (fun q => by omega)]; rfl), fo_one (clS t0 t1 e (clN t1 (apf cw m id) (apf co m lc) (m + n)) w r) (p := m + w) _ (by omega) (by omega) (fun j a q1 q2 q3 => by
    unfold clS clN
    by_cases g : j < m + n ∧ apf co m lc j < nC t1
    · rw [if_pos g]
      show (if apf cw m id j = w ∧ fgB t1.2 (apf co m lc j) = r then serve t0 t1 e w j (apf co m lc j) a else a) = a
      rw [if_neg]
      rintro ⟨q, -⟩
      rw [apf_r q1] at q
      have : j - m = w := q
      omega
    · rw [if_neg g]; rfl)]
  have e1 : clX t1 cw co m lc n (12 + w) = some (w, lc w) := by
    unfold clX
    rw [if_pos (by omega), show 12 + w - 12 = w by omega, if_pos hlw]
  have e2 : clN t1 (apf cw m id) (apf co m lc) (m + n) (m + w) = some (w, lc w) := by
    unfold clN
    rw [apf_r (by omega), apf_r (by omega), show m + w - m = w by omega, if_pos ⟨by omega, hlw⟩]
    rfl
  unfold clS at h1 ⊢
  rw [e1, e2]
  show eqv (if w = w ∧ fgB t1.2 (lc w) = r then serve t0 t1 e w (12 + w) (lc w) _ else _) (if w = w ∧ fgB t1.2 (lc w) = r then serve t0 t1 e w (m + w) (lc w) _ else _)
  split
  · exact eqv_serve h1
  · exact h1
theorem eqv_rn (hm : m ≤ 12) (hn : n ≤ 40) (hl : ∀ w, w < n → lc w < nC t1) : ∀ k, k ≤ n → eqv (rn t0 t1 e kp Hd (clX t1 cw co m lc n) k) (rn t0 t1 e kp Hd (clN t1 (apf cw m id) (apf co m lc) (m + n)) k)
  | 0, _ => by rw [rn_0, rn_0]; exact ⟨rfl, rfl, rfl⟩
  | k + 1, hk => by
    rw [rn_s, rn_s]
    unfold wkS clW
    exact eqv_sell (fo_rel eqv 10 0 _ _ (eqv_bring (eqv_rn hm hn hl k (by omega))) (fun r a b _ _ hab => eqv_clS hm hn (by omega) hl hab))
end Lots
/-- the seed after so many weeks, and what it draws -/
def sdN (x : Int32) : Int32 := (1103515245 : Int32) * x + 12345
def sd (x : Int32) : Nat → Int32
  | 0 => x
  | w + 1 => sdN (sdN (sd x w))
def lvS (x : Int32) (n w : Nat) : Nat := ix (jrem (jushr (sdN (sd x w)) 16) (nI n))
def lcS (x : Int32) (n w : Nat) : Nat := ix (jrem (jushr (sdN (sdN (sd x w))) 16) (nI n))
theorem ushr16 (x : Int32) : ∃ k, k < 65536 ∧ jushr x (16 : Int32) = nI k := by
  refine ⟨x.toBitVec.toNat / 65536, ?_, ?_⟩
  · have := x.toBitVec.isLt
    omega
  · apply Int32.toBitVec_inj.mp
    apply BitVec.eq_of_toNat_eq
    rw [show (jushr x (16 : Int32)).toBitVec.toNat = _ from pk_ushr x 16 16 (by decide +kernel), pk_tn (by have := x.toBitVec.isLt; omega)]
theorem draw_lt {x : Int32} {n : Nat} (h0 : 0 < n) (hn : n ≤ 8) : ix (jrem (jushr x 16) (nI n)) < n ∧ jrem (jushr x 16) (nI n) = nI (ix (jrem (jushr x 16) (nI n))) := by
  obtain ⟨k, hk, e⟩ := ushr16 x
  have e2 : jrem (jushr x 16) (nI n) = nI (k % n) := by
    rw [e]
    exact pk_rem (by omega) h0 (by omega)
  have hlt := Nat.mod_lt k h0
  rw [e2, ix_nI (by omega)]
  exact ⟨hlt, rfl⟩
/-- the weeks with lots -/
def rnL (a : Ab) (x : Int32) (n : Nat) : Rs := if nV (aT0 a) = 0 ∨ nC (aT1 a) = 0 then rnK (kT a) n else rn (aT0 a) (aT1 a) (aE a) (aK a) (hdN (aT0 a) (apf (aH a).2.1 (aH a).1 id) (apf (aH a).2.2 (aH a).1 (lvS x (nV (aT0 a)))) ((aH a).1 + n)) (clX (aT1 a) (aC a).2.1 (aC a).2.2 (aC a).1 (lcS x (nC (aT1 a))) n) n
def sWeeks (x n t : Int32) (a : Ab) : Int32 := if n < 1 ∨ 40 < n ∨ bad t 2 then -2 else nI (pc8 (bO (bitF (t + 1) (rnL a x (ix n))) (nV (aT0 a))))
theorem x_lots_lp {a : Ab} {x : Int32} {n : Nat} (hn : n ≤ 40) (h0 : 0 < nV (aT0 a)) (h1 : 0 < nC (aT1 a)) : ∀ (dd w fu : Nat) (z : Sg), w + dd = n → AXg PTt PRr z a → LX 31 z (aT0 a) (aT1 a) (aE a) (hdN (aT0 a) (apf (aH a).2.1 (aH a).1 id) (apf (aH a).2.2 (aH a).1 (lvS x (nV (aT0 a)))) ((aH a).1 + w)) (clX (aT1 a) (aC a).2.1 (aC a).2.2 (aC a).1 (lcS x (nC (aT1 a))) w) (12 + w) → ∃ z' y, f_X7_drawLots_lp1 (nI n) (nI (nV (aT0 a))) (nI (nC (aT1 a))) (fu + 1 + dd) (sd x w) (nI w) z = some (y, z') ∧ AXg PTt PRr z' a ∧ LX 31 z' (aT0 a) (aT1 a) (aE a) (hdN (aT0 a) (apf (aH a).2.1 (aH a).1 id) (apf (aH a).2.2 (aH a).1 (lvS x (nV (aT0 a)))) ((aH a).1 + n)) (clX (aT1 a) (aC a).2.1 (aC a).2.2 (aC a).1 (lcS x (nC (aT1 a))) n) (12 + n)
  | 0, w, fu, z, hw, h, hL => by
    obtain rfl : w = n := by omega
    refine ⟨z, sd x w, ?_, h, hL⟩
    rw [show fu + 1 + 0 = fu + 1 from rfl, f_X7_drawLots_lp1, if_neg Int32.lt_irrefl]
  | dd + 1, w, fu, z, hw, h, hL => by
    have d := h.1.dok
    have d1 := d.1
    have d2 := d.2.1
    have hC := h.1.2.2.2.2.1
    have h12 := hC.2.1
    obtain ⟨v1, v2⟩ := draw_lt (x := sdN (sd x w)) h0 d1
    obtain ⟨c1, c2⟩ := draw_lt (x := sdN (sdN (sd x w))) h1 d2
    obtain ⟨z1, e1, g1, f1, j1⟩ := x_hand (t := 31) (v := lvS x (nV (aT0 a)) w) (by decide) h.1.rd d1 hL.1 (show w < 40 by omega) (by show lvS x (nV (aT0 a)) w < 8; unfold lvS; omega)
    have hC1 : ClOK (aT1 a) (clX (aT1 a) (aC a).2.1 (aC a).2.2 (aC a).1 (lcS x (nC (aT1 a))) w) := clX_ok h12 (by omega) (fun i hi => (hC.2.2 i hi).2.2.1)
    obtain ⟨z2, e2, g2, f2, k2, j2⟩ := x_come (t := 31) (z := z1) (c := lcS x (nC (aT1 a)) w) (i := 12 + w) (by decide) (h.1.rd.fr (fun u hu => f1 u (by omega))) d hC1 (hL.2.1.of (by rw [f1 31 (by decide)]) (f1 33 (by decide))) (by omega) (show w < 40 by omega) (by unfold lcS; omega) (by omega) (by
      unfold clX
      rw [if_neg (by omega)]
      unfold clN
      rw [if_neg (fun q => by omega)])
    have h2 : AXg PTt PRr z2 a := h.trial (fun u hu => by rw [f2 u (by omega) (by omega), f1 u (by omega)]) (fun u _ => by rw [rJ_of j2, rJ_of j1])
    have hL2 : LX 31 z2 (aT0 a) (aT1 a) (aE a) (hdN (aT0 a) (apf (aH a).2.1 (aH a).1 id) (apf (aH a).2.2 (aH a).1 (lvS x (nV (aT0 a)))) ((aH a).1 + (w + 1))) (clX (aT1 a) (aC a).2.1 (aC a).2.2 (aC a).1 (lcS x (nC (aT1 a))) (w + 1)) (12 + (w + 1)) := by
      refine ⟨fun w' hw' => ?_, ?_, fun c hc => ?_⟩
      · rw [f2 (31 + 1) (by decide) (by decide), g1 w' hw', ← Nat.add_assoc, hdN_s, apf_r (Nat.le_add_right _ _), apf_r (Nat.le_add_right _ _), Nat.add_sub_cancel_left]
        rfl
      · rw [clX_s]; exact g2
      · rw [f2 (31 + 3) (by decide) (by decide), f2 (31 + 4) (by decide) (by decide), f1 (31 + 3) (by decide), f1 (31 + 4) (by decide)]; exact hL.2.2 c hc
    obtain ⟨z3, y, e3, h3⟩ := x_lots_lp hn h0 h1 dd (w + 1) fu z2 (by omega) h2 hL2
    refine ⟨z3, y, ?_, h3⟩
    have es : f_X7_nextSeed (sd x w) = some (sdN (sd x w)) := rfl
    have es2 : f_X7_nextSeed (sdN (sd x w)) = some (sdN (sdN (sd x w))) := rfl
    rw [show fu + 1 + (dd + 1) = (fu + 1 + dd) + 1 by omega, f_X7_drawLots_lp1, if_pos (nI_lt (show w < n by omega) (by omega)), es, b1_some, ck_pos (nI_ne0 h0 (by omega)), v2, show ix (jrem (jushr (sdN (sd x w)) 16) (nI (nV (aT0 a)))) = lvS x (nV (aT0 a)) w from rfl, e1, b1_some, es2, b1_some, ck_pos (nI_ne0 h1 (by omega)), c2, show ix (jrem (jushr (sdN (sdN (sd x w))) 16) (nI (nC (aT1 a)))) = lcS x (nC (aT1 a)) w from rfl, show (12 : Int32) + nI w = nI (12 + w) from nI_add 12 w, e2, b1_some, nI_l1]
    exact e3
theorem QX.more {t : Nat} {z : Sg} {t1 : Tx} {Cl : Nat → Option (Nat × Nat)} {m m' : Nat} (h : QX t z t1 Cl m) (hm : m ≤ m') : QX t z t1 Cl m' := by
  obtain ⟨n, q, q1, q2⟩ := h
  exact ⟨n, q, by omega, q2⟩
theorem rnL_told {a : Ab} {x : Int32} {n : Nat} (g : nV (aT0 a) = 0 ∨ nC (aT1 a) = 0) : rnL a x n = rnK (kT a) n := if_pos g
theorem rnL_lots {a : Ab} {x : Int32} {n : Nat} (g : ¬ (nV (aT0 a) = 0 ∨ nC (aT1 a) = 0)) : rnL a x n = rn (aT0 a) (aT1 a) (aE a) (aK a) (hdN (aT0 a) (apf (aH a).2.1 (aH a).1 id) (apf (aH a).2.2 (aH a).1 (lvS x (nV (aT0 a)))) ((aH a).1 + n)) (clX (aT1 a) (aC a).2.1 (aC a).2.2 (aC a).1 (lcS x (nC (aT1 a))) n) n := if_neg g
theorem x_drawLots {z : Sg} {a : Ab} (h : AXg PTt PRr z a) (hL : LX 31 z (aT0 a) (aT1 a) (aE a) (hdK (kT a)) (clK (kT a)) (aC a).1) (x : Int32) {n : Nat} (hn : n ≤ 40) : ∃ z' Hd Cl, f_X7_drawLots x (nI n) z = some z' ∧ AXg PTt PRr z' a ∧ LX 31 z' (aT0 a) (aT1 a) (aE a) Hd Cl 52 ∧ ClOK (aT1 a) Cl ∧ (∀ w v, Hd w v = true → v < nV (aT0 a)) ∧ rn (aT0 a) (aT1 a) (aE a) (aK a) Hd Cl n = rnL a x n := by
  have r := h.1.rd
  have d := h.1.dok
  have hC := h.1.2.2.2.2.1
  have h12 := hC.2.1
  unfold f_X7_drawLots
  rw [r.1, r.2.1]
  by_cases g : nV (aT0 a) = 0 ∨ nC (aT1 a) = 0
  · refine ⟨z, hdK (kT a), clK (kT a), ?_, h, ⟨hL.1, hL.2.1.more (by omega), hL.2.2⟩, clK_ok h.1, fun w v q => hdN_lt w v q, (rnL_told g).symm⟩
    by_cases g0 : nV (aT0 a) = 0
    · rw [if_pos ((nI_z (by have := d.1; omega)).mpr g0), b1_some, if_pos rfl]
    · rw [if_neg (fun q => g0 ((nI_z (by have := d.1; omega)).mp q)), if_pos ((nI_z (by have := d.2.1; omega)).mpr (g.resolve_left g0)), b1_some, if_pos rfl]
  · have g0 : ¬ nV (aT0 a) = 0 := fun q => g (Or.inl q)
    have g1 : ¬ nC (aT1 a) = 0 := fun q => g (Or.inr q)
    have hL0 : LX 31 z (aT0 a) (aT1 a) (aE a) (hdN (aT0 a) (apf (aH a).2.1 (aH a).1 id) (apf (aH a).2.2 (aH a).1 (lvS x (nV (aT0 a)))) ((aH a).1 + 0)) (clX (aT1 a) (aC a).2.1 (aC a).2.2 (aC a).1 (lcS x (nC (aT1 a))) 0) (12 + 0) := by
      rw [clX_0, Nat.add_zero, hdN_congr (hw' := (aH a).2.1) (hv' := (aH a).2.2) (fun k hk => ⟨apf_l hk, apf_l hk⟩)]
      exact ⟨hL.1, hL.2.1.more h12, hL.2.2⟩
    obtain ⟨z', y, e', h', hL'⟩ := x_lots_lp (x := x) hn (by omega) (by omega) n 0 (4095 - n) z (by omega) h hL0
    rw [show 4095 - n + 1 + n = 4096 by omega, nI_0, show sd x 0 = x from rfl] at e'
    refine ⟨z', _, _, ?_, h', ⟨hL'.1, hL'.2.1.more (by omega), hL'.2.2⟩, clX_ok h12 hn (fun i hi => (hC.2.2 i hi).2.2.1), fun w v q => hdN_lt w v q, (rnL_lots g).symm⟩
    rw [if_neg (fun q => g0 ((nI_z (by have := d.1; omega)).mp q)), if_neg (fun q => g1 ((nI_z (by have := d.2.1; omega)).mp q)), b1_some, if_neg (by decide), e', b2_some]
theorem X_weeks {z : Sg} {a : Ab} (h : AXg PTt PRr z a) (x n t : Int32) : ∃ z', f_X7_weeks x n t z = some (sWeeks x n t a, z') ∧ AXg PTt PRr z' a := by
  have d := h.1.dok
  have d1 := d.1
  have p8 : 2 ^ nV (aT0 a) ≤ 256 := Nat.pow_le_pow_right (n := 2) (by decide) d1
  have hst := h.1.2.2.1
  unfold f_X7_weeks sWeeks
  by_cases c1 : n < 1
  · refine ⟨z, ?_, h⟩
    rw [if_pos c1, b1_some, if_pos rfl, if_pos (Or.inl c1)]
  rw [if_neg c1]
  by_cases c2 : 40 < n
  · refine ⟨z, ?_, h⟩
    rw [if_pos c2, b1_some, if_pos rfl, if_pos (Or.inr (Or.inl c2))]
  rw [if_neg c2]
  rcases arg_cases t 2 (by decide) with ht | ⟨t, ht, rfl⟩
  · have e3 : f_X7_outside t 2 = some 1 := x_out_bad (n := 2) ht
    refine ⟨z, ?_, h⟩
    rw [e3, b1_some, if_pos ne10, b1_some, if_pos rfl, if_pos (Or.inr (Or.inr ht))]
  have e3 : f_X7_outside (nI t) 2 = some 0 := x_out_nI (n := 2) ht (by decide)
  have n2 := not_bad ht (by decide)
  obtain ⟨n, hn, rfl⟩ := nI_of (x := n) (fun q => c1 (Int32.lt_trans q (by decide)))
  have hn1 : 1 ≤ n := by
    rcases Nat.lt_or_ge n 1 with q | q
    · exact absurd (show nI n < (1 : Int32) from nI_lt (b := 1) q (by decide)) c1
    · exact q
  have hn40 : n ≤ 40 := by
    rcases Nat.lt_or_ge 40 n with q | q
    · exact absurd (show (40 : Int32) < nI n from nI_lt (a := 40) q hn) c2
    · exact q
  obtain ⟨z1, e1, h1, l1⟩ := x_load31 h
  obtain ⟨z2, Hd, Cl, e2, h2, l2, o2, b2', q2⟩ := x_drawLots h1 l1 x hn40
  have hst2 := h2.1.2.2.1
  obtain ⟨z3, e3', p3, -, f3⟩ := x_play (t := 31) (kp := aK a) (by decide) h2.1.rd d hst2.2.2.1 hst2.2.2.2.2.2.2 hst2.2.2.2.2.2.1 o2 b2' l2 (Nat.le_refl _) hn40
  rw [q2] at p3
  have h3 : AXg PTt PRr z3 a := h2.trial f3.1 (fun u hu => by funext q; rw [f3.2.2.2 u q (fun g => hu g.1)])
  refine ⟨z3, ?_, h3⟩
  have hB : ∀ p : Nat → Bool, bO p (nV (aT0 a)) < 256 := fun p => Nat.lt_of_lt_of_le (bO_lt _ _) p8
  rw [e3, b1_some, if_neg (by decide), b1_some, if_neg (by decide), e1, b1_some, e2, b1_some, Int32.sub_eq_add_neg, e3', b1_some, p3.2.2.1, p3.2.2.2.1, if_neg (show ¬ (nI n < 1 ∨ 40 < nI n ∨ bad (nI t) 2) from fun q => q.elim c1 (fun q => q.elim c2 n2)), ix_nI hn, show nI t + (1 : Int32) = nI (t + 1) from nI_1 t]
  rcases (show t = 0 ∨ t = 1 by omega) with rfl | rfl
  · rw [if_pos (show nI 0 = (0 : Int32) from rfl), b1_some, x_bitCount (hB _), b1_some, bitF_1]
  · rw [if_neg (show ¬ nI 1 = (0 : Int32) by decide), b1_some, x_bitCount (hB _), b1_some, bitF_2]
