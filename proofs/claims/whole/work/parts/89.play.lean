/-! THE WEEKS: the class plays them. -/
theorem bO_f {p : Nat → Bool} {n : Nat} (h : ∀ i, i < n → p i = false) : bO p n = 0 := (bO_zero p n).mpr (by
  cases hq : anyB p n with
  | false => rfl
  | true =>
    obtain ⟨j, h1, h2⟩ := (anyB_iff _ _).mp hq
    rw [h j h1] at h2
    cases h2)
def PX (t : Nat) (z : Sg) (t0 : Tx) (w : Nat) (s : Rs) : Prop :=
  RsOK (nV t0) w s ∧ rI z t 12 = nI (bO (onS s) (nV t0)) ∧ rI z t 13 = nI (bO (givS s) (nV t0)) ∧ rI z t 14 = nI (bO (solS s) (nV t0)) ∧ rJ z t 15 = lN (bO (rV s) 52) ∧ rI z t 16 = opI (rS s) ∧ (∀ v, v < 8 → rI z (t + 9) v = opI (rT s v) ∧ rI z (t + 10) v = opI (rG s v)) ∧ ∀ x, x < w → rI z (t + 5) x = nI (bO (fun v => decide (rC s v = some x)) (nV t0))
def FY (t : Nat) (z z' : Sg) : Prop := (∀ u, ¬ (t ≤ u ∧ u ≤ t + 10) → rI z' u = rI z u) ∧ (∀ k, k < 12 → rI z' t k = rI z t k) ∧ (∀ u, 1 ≤ u → u ≤ 8 → u ≠ 5 → rI z' (t + u) = rI z (t + u)) ∧ ∀ u q, ¬ (u = t ∧ q = 15) → rJ z' u q = rJ z u q
def FX (t : Nat) (z z' : Sg) : Prop := (∀ u, ¬ (t ≤ u ∧ u ≤ t + 10) → rI z' u = rI z u) ∧ (∀ k, k < 12 → rI z' t k = rI z t k) ∧ (∀ u, 1 ≤ u → u ≤ 4 → rI z' (t + u) = rI z (t + u)) ∧ ∀ u q, ¬ (u = t ∧ q = 15) → rJ z' u q = rJ z u q
theorem FY.x {t : Nat} {z z' : Sg} (h : FY t z z') : FX t z z' := ⟨h.1, h.2.1, fun u h1 h2 => h.2.2.1 u h1 (by omega) (by omega), h.2.2.2⟩
theorem FX.refl (t : Nat) (z : Sg) : FX t z z := ⟨fun _ _ => rfl, fun _ _ => rfl, fun _ _ _ => rfl, fun _ _ _ => rfl⟩
theorem FY.refl (t : Nat) (z : Sg) : FY t z z := ⟨fun _ _ => rfl, fun _ _ => rfl, fun _ _ _ _ => rfl, fun _ _ _ => rfl⟩
theorem FX.trans {t : Nat} {z z' z'' : Sg} (h : FX t z z') (g : FX t z' z'') : FX t z z'' := ⟨fun u q => (g.1 u q).trans (h.1 u q), fun k q => (g.2.1 k q).trans (h.2.1 k q), fun u q1 q2 => (g.2.2.1 u q1 q2).trans (h.2.2.1 u q1 q2), fun u q e => (g.2.2.2 u q e).trans (h.2.2.2 u q e)⟩
theorem FY.trans {t : Nat} {z z' z'' : Sg} (h : FY t z z') (g : FY t z' z'') : FY t z z'' := ⟨fun u q => (g.1 u q).trans (h.1 u q), fun k q => (g.2.1 k q).trans (h.2.1 k q), fun u q1 q2 q3 => (g.2.2.1 u q1 q2 q3).trans (h.2.2.1 u q1 q2 q3), fun u q e => (g.2.2.2 u q e).trans (h.2.2.2 u q e)⟩
theorem LX.of {t : Nat} {z z' : Sg} {t0 t1 : Tx} {e : Nat} {Hd : Nat → Nat → Bool} {Cl : Nat → Option (Nat × Nat)} {m : Nat} (h : LX t z t0 t1 e Hd Cl m) (f : FX t z z') : LX t z' t0 t1 e Hd Cl m := by
  refine ⟨fun w hw => ?_, h.2.1.of (f.2.1 3 (by decide)) (f.2.2.1 2 (by decide) (by decide)), fun c hc => ?_⟩
  · rw [f.2.2.1 1 (by decide) (by decide)]; exact h.1 w hw
  · rw [f.2.2.1 3 (by decide) (by decide), f.2.2.1 4 (by decide) (by decide)]; exact h.2.2 c hc
theorem FX.rd {t : Nat} {z z' : Sg} {t0 t1 : Tx} (ht : 20 ≤ t) (r : RDx z t0 t1) (f : FX t z z') : RDx z' t0 t1 := r.fr (fun u hu => f.1 u (by omega))
theorem rJf_wI (z : Sg) (t k : Nat) (v : Int32) (u : Nat) : rJ (wI z t k v) u = rJ z u := rfl
section Play
variable {t : Nat} {z : Sg} {t0 t1 : Tx} {e kp : Nat} {Hd : Nat → Nat → Bool} {Cl : Nat → Option (Nat × Nat)} {m : Nat}
theorem x_begin (ht : 20 ≤ t) : ∃ z', f_X4_begin t z = some z' ∧ PX t z' t0 0 rs0 ∧ FX t z z' := by
  obtain ⟨z1, e1, f1, g1, j1⟩ := J_fill (t + 9) (-1) (n := 8) (by decide) z
  obtain ⟨z2, e2, f2, g2, j2⟩ := J_fill (t + 10) (-1) (n := 8) (by decide) z1
  unfold f_X4_begin
  rw [e1, b1_some, e2, b1_some]
  refine ⟨_, rfl, ⟨RsOK.zero, ?_, ?_, ?_, ?_, ?_, fun v hv => ⟨?_, ?_⟩, fun x hx => by omega⟩, fun u hu => ?_, fun k hk => ?_, fun u h1 h2 => ?_, fun u q hu => ?_⟩
  · rw [rI_wI, if_neg (fun g => absurd g.2 (by decide)), rI_wJ, rI_wI, if_neg (fun g => absurd g.2 (by decide)), rI_wI, if_neg (fun g => absurd g.2 (by decide)), rI_wI, if_pos ⟨rfl, rfl⟩, bO_f (p := onS rs0) (fun _ _ => rfl)]; rfl
  · rw [rI_wI, if_neg (fun g => absurd g.2 (by decide)), rI_wJ, rI_wI, if_neg (fun g => absurd g.2 (by decide)), rI_wI, if_pos ⟨rfl, rfl⟩, bO_f (p := givS rs0) (fun _ _ => rfl)]; rfl
  · rw [rI_wI, if_neg (fun g => absurd g.2 (by decide)), rI_wJ, rI_wI, if_pos ⟨rfl, rfl⟩, bO_f (p := solS rs0) (fun _ _ => rfl)]; rfl
  · rw [rJ_wI, rJ_wJ, if_pos ⟨rfl, rfl⟩, bO_f (p := rV rs0) (fun _ _ => rfl)]; rfl
  · rw [rI_wI, if_pos ⟨rfl, rfl⟩]; rfl
  · rw [rIf_wI, if_neg (by omega), rIf_wJ, rIf_wI, if_neg (by omega), rIf_wI, if_neg (by omega), rIf_wI, if_neg (by omega), f2 _ (by omega), g1, if_pos hv]; rfl
  · rw [rIf_wI, if_neg (by omega), rIf_wJ, rIf_wI, if_neg (by omega), rIf_wI, if_neg (by omega), rIf_wI, if_neg (by omega), g2, if_pos hv]; rfl
  · rw [rIf_wI, if_neg (by omega), rIf_wJ, rIf_wI, if_neg (by omega), rIf_wI, if_neg (by omega), rIf_wI, if_neg (by omega), f2 u (by omega), f1 u (by omega)]
  · rw [rI_wI, if_neg (fun g => by omega), rI_wJ, rI_wI, if_neg (fun g => by omega), rI_wI, if_neg (fun g => by omega), rI_wI, if_neg (fun g => by omega), f2 t (by omega), f1 t (by omega)]
  · rw [rIf_wI, if_neg (by omega), rIf_wJ, rIf_wI, if_neg (by omega), rIf_wI, if_neg (by omega), rIf_wI, if_neg (by omega), f2 _ (by omega), f1 _ (by omega)]
  · rw [rJ_wI, rJ_wJ, if_neg hu, rJ_wI, rJ_wI, rJ_wI]
    unfold rJ
    rw [j2, j1]
theorem bring_1 {s : Rs} {w : Nat} (h : RsOK (nV t0) w s) (v : Nat) : (Hd w v && !((onS s v || givS s v) || solS s v)) = decide (rC (bring Hd w s) v = some w) := by
  show _ = decide ((if (rC s v).isNone && Hd w v then some w else rC s v) = some w)
  unfold onS givS solS
  cases hc : rC s v with
  | none =>
    have h1 := h.2.1 v hc
    have h2 := h.2.2.1 v h1
    rw [h1, h2]
    cases Hd w v <;> simp
  | some c =>
    have h1 := (h.1 v c hc).1
    cases rG s v <;> cases rT s v <;> simp <;> omega
theorem bring_2 {s : Rs} {w : Nat} (h : RsOK (nV t0) w s) (v : Nat) : (onS s v || decide (rC (bring Hd w s) v = some w)) = onS (bring Hd w s) v := by
  rw [← bring_1 h v]
  show _ = ((if (rC s v).isNone && Hd w v then some w else rC s v).isSome && (rG s v).isNone)
  unfold onS givS solS
  cases hc : rC s v with
  | none =>
    have h1 := h.2.1 v hc
    have h2 := h.2.2.1 v h1
    rw [h1, h2]
    cases Hd w v <;> simp
  | some c => cases rG s v <;> cases rT s v <;> cases Hd w v <;> simp
theorem bring_3 {s : Rs} {w x : Nat} (hx : x < w) (v : Nat) : decide (rC (bring Hd w s) v = some x) = decide (rC s v = some x) := by
  show decide ((if (rC s v).isNone && Hd w v then some w else rC s v) = some x) = _
  cases hc : rC s v with
  | none =>
    cases Hd w v
    · simp
    · simp; omega
  | some c => simp
theorem x_bringIn {s : Rs} {w : Nat} (ht : 20 ≤ t) (d1 : nV t0 ≤ 8) (hw : w < 40) (hH : rI z (t + 1) w = nI (bO (Hd w) (nV t0))) (hv : ∀ v, Hd w v = true → v < nV t0) (h : PX t z t0 w s) : ∃ z', f_X4_bringIn t (nI w) z = some z' ∧ PX t z' t0 (w + 1) (bring Hd w s) ∧ FY t z z' := by
  obtain ⟨h0, h1, h2, h3, h4, h5, h6, h7⟩ := h
  unfold f_X4_bringIn
  rw [ck_pos (ib_nI hw (by decide)), ck_pos (ib_nI hw (by decide)), ck_pos (ib_nI hw (by decide)), ix_nI (by omega), hH, h1, h2, h3, nI_or, nI_or, bO_orr, bO_orr, bO_andn _ _ (by omega), bO_congr (q := fun v => decide (rC (bring Hd w s) v = some w)) (nV t0) (fun v _ => bring_1 h0 v)]
  refine ⟨_, rfl, ⟨h0.br_ok hv, ?_, ?_, ?_, ?_, ?_, fun v hv => ⟨?_, ?_⟩, fun x hx => ?_⟩, fun u hu => ?_, fun k hk => ?_, fun u g1 g2 g3 => ?_, fun u q hu => rfl⟩
  · rw [rI_wI, if_pos ⟨rfl, rfl⟩, rI_wI, if_neg (fun g => by omega), h1, rI_wI, if_pos ⟨rfl, rfl⟩, nI_or, bO_orr, bO_congr (q := onS (bring Hd w s)) (nV t0) (fun v _ => bring_2 h0 v)]
  · rw [rI_wI, if_neg (fun g => absurd g.2 (by decide)), rI_wI, if_neg (fun g => by omega), h2]; rfl
  · rw [rI_wI, if_neg (fun g => absurd g.2 (by decide)), rI_wI, if_neg (fun g => by omega), h3]; rfl
  · exact h4
  · rw [rI_wI, if_neg (fun g => absurd g.2 (by decide)), rI_wI, if_neg (fun g => by omega)]; exact h5
  · rw [rIf_wI, if_neg (by omega), rIf_wI, if_neg (by omega)]; exact (h6 v hv).1
  · rw [rIf_wI, if_neg (by omega), rIf_wI, if_neg (by omega)]; exact (h6 v hv).2
  · rw [rIf_wI, if_neg (by omega), rI_wI]
    by_cases g : x = w
    · rw [if_pos ⟨rfl, g⟩, g]
    · rw [if_neg (fun q => g q.2), h7 x (by omega), bO_congr (q := fun v => decide (rC (bring Hd w s) v = some x)) (nV t0) (fun v _ => (bring_3 (by omega) v).symm)]
  · rw [rIf_wI, if_neg (by omega), rIf_wI, if_neg (by omega)]
  · rw [rI_wI, if_neg (fun g => by omega), rI_wI, if_neg (fun g => by omega)]
  · rw [rIf_wI, if_neg (by omega), rIf_wI, if_neg (by omega)]
theorem x_least (r : RDx z t0 t1) (d1 : nV t0 ≤ 8) {B : Nat} (hB : B < 256) : f_X2_leastWorthOf (nI B) z = some (opI (lw t0 (fun v => B.testBit v) (nV t0))) := by
  unfold f_X2_leastWorthOf
  have := lp_up (fun n b i => f_X2_leastWorthOf_lp1 (nI B) z n b i) (nV t0) (fun i => opI (lw t0 (fun v => B.testBit v) i)) _ (fun n => by
    show f_X2_leastWorthOf_lp1 (nI B) z (n + 1) _ _ = _
    rw [f_X2_leastWorthOf_lp1, r.1, if_neg Int32.lt_irrefl]) (fun n i hi => by
    show f_X2_leastWorthOf_lp1 (nI B) z (n + 1) _ _ = f_X2_leastWorthOf_lp1 (nI B) z n _ _
    rw [f_X2_leastWorthOf_lp1, r.1, if_pos (nI_lt hi (by omega)), nI_l1, lw_s]
    by_cases c : B.testBit i = true
    · rw [if_pos ((bit_is (by omega) (by omega)).mpr c), b1_some, if_pos ne10, c, Bool.true_and]
      cases hl : lw t0 (fun v => B.testBit v) i with
      | none => rw [if_pos (show opI none = -1 from rfl), b1_some, if_pos rfl, b1_some]; rfl
      | some b =>
        have hb := (lw_is _ _ _ _ hl).1
        have ec := nI_ltI (a := fgB t0.2 i) (b := fgB t0.2 b) (by have := fg_le (vg := false) (x := t0) (j := i) hi; omega) (by have := fg_le (vg := false) (x := t0) (j := b) (show b < nV t0 by omega); omega)
        rw [if_neg (show ¬ opI (some b) = -1 from nI_ne_m1 (by omega)), ck_pos (ib_nI (show i < 8 by omega) (by decide)), show opI (some b) = nI b from rfl, ck_pos (ib_nI (show b < 8 by omega) (by decide)), ix_nI (by omega), ix_nI (by omega), (r.2.2.1 i hi).2, (r.2.2.1 b (by omega)).2]
        by_cases g : fgB t0.2 i < fgB t0.2 b
        · rw [if_pos (ec.mpr g), b1_some, if_pos rfl, b1_some, if_pos (show lwT t0 (some b) i = true from decide_eq_true g)]; rfl
        · rw [if_neg (fun q => g (ec.mp q)), b1_some, if_neg (by decide), b1_some, if_neg (show ¬ lwT t0 (some b) i = true from fun q => g (of_decide_eq_true q))]; rfl
    · rw [if_neg (fun q => c ((bit_is (by omega) (by omega)).mp q)), b1_some, if_neg (by decide), b1_some, if_neg (by decide), b1_some, show B.testBit i = false by simpa using c, Bool.false_and, if_neg (by decide)]) 4096 (by omega)
  rw [show f_X2_leastWorthOf_lp1 (nI B) z 4096 (-1) 0 = _ from this]
  rfl
theorem lN_or (a b : Nat) : lN a ||| lN b = lN (a ||| b) := by
  apply Int64.toBitVec_inj.mp
  show BitVec.ofNat 64 a ||| BitVec.ofNat 64 b = BitVec.ofNat 64 (a ||| b)
  rw [BitVec.ofNat_or]
theorem one_shl64' : ∀ k : Fin 52, lshlj 1 (nI k.1) = lN (2 ^ k.1) := by decide +kernel
theorem one_shl64 {k : Nat} (h : k < 52) : lshlj 1 (nI k) = lN (2 ^ k) := one_shl64' ⟨k, h⟩
theorem t_who {w r i c : Nat} (hw : w < 40) (hr : r ≤ 9) (hi : i < 52) (hc : c < 8) : jrem (nI (tkt w r i c)) (8 : Int32) = nI c := by
  have := pk_rem (a := tkt w r i c) (d := 8) (by unfold tkt; omega) (by decide) (by decide)
  rw [show tkt w r i c % 8 = c by unfold tkt; omega] at this
  exact this
theorem t_idx {w r i c : Nat} (hw : w < 40) (hr : r ≤ 9) (hi : i < 52) (hc : c < 8) : jrem (nI (tkt w r i c)) (512 : Int32) / (8 : Int32) = nI i := by
  have h1 := pk_rem (a := tkt w r i c) (d := 512) (by unfold tkt; omega) (by decide) (by decide)
  have h2 := pk_div (a := tkt w r i c % 512) (d := 8) (by omega) (by decide) (by decide)
  rw [show tkt w r i c % 512 / 8 = i by unfold tkt; omega] at h2
  rw [show jrem (nI (tkt w r i c)) (512 : Int32) = nI (tkt w r i c % 512) from h1]
  exact h2
theorem srv_on {s : Rs} {v w c i : Nat} (u : Nat) : (onS s u && !decide (u = v)) = onS (rC s, oup (rG s) v w, oup (rT s) v c, bup (rV s) i, rS s) u := by
  show _ = ((rC s u).isSome && (if u = v then some w else rG s u).isNone)
  unfold onS
  by_cases g : u = v
  · rw [if_pos g, decide_eq_true g]; simp
  · rw [if_neg g, decide_eq_false g]; simp
theorem srv_gi {s : Rs} {v w c i : Nat} (u : Nat) : (givS s u || decide (u = v)) = givS (rC s, oup (rG s) v w, oup (rT s) v c, bup (rV s) i, rS s) u := by
  show _ = ((if u = v then some w else rG s u).isSome && (if u = v then some c else rT s u).isSome)
  unfold givS
  by_cases g : u = v
  · rw [if_pos g, if_pos g, decide_eq_true g]; simp
  · rw [if_neg g, if_neg g, decide_eq_false g]; simp
theorem srv_so {s : Rs} {v w c i : Nat} (hv : rG s v = none) (u : Nat) : solS s u = solS (rC s, oup (rG s) v w, oup (rT s) v c, bup (rV s) i, rS s) u := by
  show _ = ((if u = v then some w else rG s u).isSome && (if u = v then some c else rT s u).isNone)
  unfold solS
  by_cases g : u = v
  · rw [if_pos g, if_pos g, g, hv]; rfl
  · rw [if_neg g, if_neg g]
theorem giso {s : Rs} (u : Nat) : (givS s u || solS s u) = (rG s u).isSome := by
  unfold givS solS
  cases rG s u <;> cases rT s u <;> rfl
theorem x_serve {s : Rs} {w i c : Nat} (ht : 20 ≤ t) (r : RDx z t0 t1) (d : DOK t0 t1) (hw : w < 40) (hc : c < nC t1) (hi : i < 52) (hL : rI z (t + 3) c = nI (bO (fit t0 t1 c) (nV t0)) ∧ rI z (t + 4) c = nI (bO (alw t0 t1 e c) (nV t0))) (h : PX t z t0 (w + 1) s) : ∃ z', f_X4_serve t (nI w) (nI (tkt w (fgB t1.2 c) i c)) z = some z' ∧ PX t z' t0 (w + 1) (serve t0 t1 e w i c s) ∧ FY t z z' := by
  have d1 := d.1
  have d2 := d.2.1
  have hf := d.2.2.2 c hc
  have hok : RsOK (nV t0) (w + 1) (serve t0 t1 e w i c s) := h.1.sv_ok (by omega) (by omega) (by omega) (by omega)
  obtain ⟨h0, h1, h2, h3, h4, h5, h6, h7⟩ := h
  have p8 : 2 ^ nV t0 ≤ 256 := Nat.pow_le_pow_right (n := 2) (by decide) d1
  have ep : lw t0 (fun v => (bO (fun v => onS s v && alw t0 t1 e c v) (nV t0)).testBit v) (nV t0) = pick t0 t1 e c s := by
    unfold pick
    rw [lw_congr t0 (q := fun v => onS s v && alw t0 t1 e c v) (nV t0) (fun j hj => by rw [bO_test, decide_eq_true hj, Bool.true_and])]
    by_cases g : enou t1 e c = true
    · rw [if_pos g]
      exact lw_congr t0 (nV t0) (fun j _ => by unfold alw; rw [g, Bool.true_and])
    · rw [if_neg g]
      exact lw_none t0 (nV t0) (fun j _ => by unfold alw; rw [show enou t1 e c = false by simpa using g, Bool.false_and, Bool.and_false])
  unfold f_X4_serve
  rw [t_who hw hf hi (by omega), t_idx hw hf hi (by omega), ck_pos (ib_nI (show c < 8 by omega) (by decide)), ix_nI (by omega), h1, hL.2, nI_and, bO_and, x_least r d1 (Nat.lt_of_lt_of_le (bO_lt _ _) p8), ep, b1_some]
  unfold serve at hok ⊢
  cases hp : pick t0 t1 e c s with
  | some v =>
    rw [hp] at hok
    obtain ⟨v1, v2⟩ := pick_is hp
    have v3 := (onS_is v2).2
    have hv8 : v < 8 := by omega
    rw [if_pos (show ¬ opI (some v) = -1 from nI_ne_m1 (by omega))]
    unfold f_X4_give
    rw [show opI (some v) = nI v from rfl, ck_pos (ib_nI hv8 (by decide)), ck_pos (ib_nI hv8 (by decide)), b1_some, b1_some, ix_nI (by omega), one_shl (by omega), one_shl64 hi]
    refine ⟨_, rfl, ⟨hok, ?_, ?_, ?_, ?_, ?_, fun u hu => ⟨?_, ?_⟩, fun x hx => ?_⟩, fun u hu => ?_, fun k hk => ?_, fun u g1 g2 g3 => ?_, fun u q hu => ?_⟩
    · rw [rI_wJ, rI_wI, if_neg (fun g => by omega), rI_wI, if_neg (fun g => by omega), rI_wI, if_neg (fun g => absurd g.2 (by decide)), rI_wI, if_pos ⟨rfl, rfl⟩, h1, bO_clr _ (by omega)]
      exact congrArg nI (bO_congr _ fun u _ => srv_on u)
    · rw [rI_wJ, rI_wI, if_neg (fun g => by omega), rI_wI, if_neg (fun g => by omega), rI_wI, if_pos ⟨rfl, rfl⟩, rI_wI, if_neg (fun g => absurd g.2 (by decide)), h2, nI_or, bO_set _ v1]
      exact congrArg nI (bO_congr _ fun u _ => srv_gi u)
    · rw [rI_wJ, rI_wI, if_neg (fun g => by omega), rI_wI, if_neg (fun g => by omega), rI_wI, if_neg (fun g => absurd g.2 (by decide)), rI_wI, if_neg (fun g => absurd g.2 (by decide)), h3]
      exact congrArg nI (bO_congr _ fun u _ => srv_so v3 u)
    · rw [rJ_wJ, if_pos ⟨rfl, rfl⟩, rJ_wI, rJ_wI, rJ_wI, rJ_wI, h4, lN_or, bO_set _ hi]
      rfl
    · rw [rI_wJ, rI_wI, if_neg (fun g => by omega), rI_wI, if_neg (fun g => by omega), rI_wI, if_neg (fun g => absurd g.2 (by decide)), rI_wI, if_neg (fun g => absurd g.2 (by decide))]
      exact h5
    · rw [rI_wJ, rI_wI, if_neg (fun g => by omega), rI_wI]
      show _ = opI (if u = v then some c else rT s u)
      by_cases g : u = v
      · rw [if_pos ⟨rfl, g⟩, if_pos g]; rfl
      · rw [if_neg (fun q => g q.2), if_neg g, rIf_wI, if_neg (by omega), rIf_wI, if_neg (by omega)]; exact (h6 u hu).1
    · rw [rI_wJ, rI_wI]
      show _ = opI (if u = v then some w else rG s u)
      by_cases g : u = v
      · rw [if_pos ⟨rfl, g⟩, if_pos g]; rfl
      · rw [if_neg (fun q => g q.2), if_neg g, rIf_wI, if_neg (by omega), rIf_wI, if_neg (by omega), rIf_wI, if_neg (by omega)]; exact (h6 u hu).2
    · rw [rIf_wJ, rIf_wI, if_neg (by omega), rIf_wI, if_neg (by omega), rIf_wI, if_neg (by omega), rIf_wI, if_neg (by omega)]; exact h7 x hx
    · rw [rIf_wJ, rIf_wI, if_neg (by omega), rIf_wI, if_neg (by omega), rIf_wI, if_neg (by omega), rIf_wI, if_neg (by omega)]
    · rw [rI_wJ, rI_wI, if_neg (fun g => by omega), rI_wI, if_neg (fun g => by omega), rI_wI, if_neg (fun g => by omega), rI_wI, if_neg (fun g => by omega)]
    · rw [rIf_wJ, rIf_wI, if_neg (by omega), rIf_wI, if_neg (by omega), rIf_wI, if_neg (by omega), rIf_wI, if_neg (by omega)]
    · rw [rJ_wJ, if_neg hu]; rfl
  | none =>
    rw [hp] at hok
    rw [if_neg (show ¬ ¬ opI none = -1 from fun g => g rfl), h5, hL.1, h2, h3, nI_or, bO_orr, nI_and, bO_and, ck_pos (ib_nI (show c < 8 by omega) (by decide))]
    have hb : bO (fun v => (givS s v || solS s v) && fit t0 t1 c v) (nV t0) < 256 := Nat.lt_of_lt_of_le (bO_lt _ _) p8
    have hz : bO (fun v => (givS s v || solS s v) && fit t0 t1 c v) (nV t0) = 0 ↔ fgone t0 t1 c s = false := by
      rw [bO_zero]
      unfold fgone
      rw [anyB_congr (q := fun v => (rG s v).isSome && fit t0 t1 c v) (nV t0) (fun u _ => by rw [giso])]
    have hS : opI (rS s) = -1 ↔ rS s = none := opI_m1 (fun x hx => by have := h0.2.2.2.2.2 x hx; omega)
    show ∃ z', _ ∧ PX t z' t0 (w + 1) (if (rS s).isNone && fgone t0 t1 c s then (rC s, rG s, rT s, rV s, some i) else s) ∧ _
    have keep : ¬ ((rS s).isNone && fgone t0 t1 c s) = true → PX t z t0 (w + 1) (if (rS s).isNone && fgone t0 t1 c s then (rC s, rG s, rT s, rV s, some i) else s) := fun g => by
      rw [if_neg g]; exact ⟨h0, h1, h2, h3, h4, h5, h6, h7⟩
    by_cases g1 : rS s = none
    · rw [if_pos (hS.mpr g1)]
      cases g2 : fgone t0 t1 c s with
      | true =>
        have g3 : ((rS s).isNone && true) = true := by rw [g1]; rfl
        rw [if_pos (show ¬ nI (bO (fun v => (givS s v || solS s v) && fit t0 t1 c v) (nV t0)) = 0 from fun q => by rw [nI_z (by omega), hz, g2] at q; cases q), b1_some, if_pos rfl, b1_some, b1_some, if_pos g3]
        have hok' : RsOK (nV t0) (w + 1) (if (rS s).isNone && fgone t0 t1 c s then (rC s, rG s, rT s, rV s, some i) else s) := hok
        rw [g2, if_pos g3] at hok'
        refine ⟨_, rfl, ⟨hok', ?_, ?_, ?_, ?_, ?_, fun u hu => ?_, fun x hx => ?_⟩, fun u hu => ?_, fun k hk => ?_, fun u g1 g2 g3 => ?_, fun u q hu => rfl⟩
        · rw [rI_wI, if_neg (fun g => absurd g.2 (by decide))]; exact h1
        · rw [rI_wI, if_neg (fun g => absurd g.2 (by decide))]; exact h2
        · rw [rI_wI, if_neg (fun g => absurd g.2 (by decide))]; exact h3
        · exact h4
        · rw [rI_wI, if_pos ⟨rfl, rfl⟩]; rfl
        · rw [rIf_wI, if_neg (by omega), rIf_wI, if_neg (by omega)]; exact h6 u hu
        · rw [rIf_wI, if_neg (by omega)]; exact h7 x hx
        · rw [rIf_wI, if_neg (by omega)]
        · rw [rI_wI, if_neg (fun g => by omega)]
        · rw [rIf_wI, if_neg (by omega)]
      | false =>
        rw [if_neg (show ¬ ¬ nI (bO (fun v => (givS s v || solS s v) && fit t0 t1 c v) (nV t0)) = 0 from fun q => q ((nI_z (by omega)).mpr (hz.mpr g2))), b1_some, if_neg (by decide), b1_some, b1_some]
        refine ⟨z, rfl, ?_, FY.refl t z⟩
        rw [← g2]
        exact keep (by rw [g2, Bool.and_false]; decide)
    · rw [if_neg (fun q => g1 (hS.mp q)), b1_some, if_neg (by decide), b1_some, b1_some]
      refine ⟨z, rfl, keep ?_, FY.refl t z⟩
      cases hq : rS s with
      | none => exact absurd hq g1
      | some x => simp
end Play
