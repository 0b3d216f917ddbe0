/-! THE WEEKS: the class plays them, the whole. -/
theorem came' : ∀ w : Fin 40, ∀ k : Fin 10, (k.1 ≤ w.1 + 1 → (nI w.1 - nI k.1) + (1 : Int32) = nI (w.1 + 1 - k.1)) ∧ (¬ k.1 ≤ w.1 + 1 → (nI w.1 - nI k.1) + (1 : Int32) < 0) := by decide +kernel
section Play2
variable {t : Nat} {z : Sg} {t0 t1 : Tx} {e kp : Nat} {Hd : Nat → Nat → Bool} {Cl : Nat → Option (Nat × Nat)} {m : Nat}
theorem sell_on {s : Rs} {w : Nat} (v : Nat) : (onS s v && !slB kp w s v) = onS (sell kp w s) v := by
  show _ = ((rC s v).isSome && (if slB kp w s v then some w else rG s v).isNone)
  cases hq : slB kp w s v
  · rw [if_neg (by decide)]; unfold onS; simp
  · rw [if_pos rfl]; simp
theorem slB_on {s : Rs} {w v : Nat} (h : slB kp w s v = true) : rG s v = none := by
  unfold slB at h
  rw [Bool.and_eq_true] at h
  exact (onS_is h.1).2
theorem sell_gi {s : Rs} {w n x : Nat} (hs : RsOK n x s) (v : Nat) : givS s v = givS (sell kp w s) v := by
  show _ = ((if slB kp w s v then some w else rG s v).isSome && (rT s v).isSome)
  unfold givS
  cases hq : slB kp w s v
  · rw [if_neg (by decide)]
  · have g := slB_on hq
    rw [if_pos rfl, g, hs.2.2.1 v g]; rfl
theorem sell_so {s : Rs} {w n x : Nat} (hs : RsOK n x s) (v : Nat) : (solS s v || slB kp w s v) = solS (sell kp w s) v := by
  show _ = ((if slB kp w s v then some w else rG s v).isSome && (rT s v).isNone)
  unfold solS
  cases hq : slB kp w s v
  · rw [if_neg (by decide), Bool.or_false]
  · have g := slB_on hq
    rw [if_pos rfl, g, hs.2.2.1 v g]; rfl
theorem x_sell_lp {B w : Nat} (hB : B < 256) (f : Nat → Int32) : ∃ z', f_X4_sell_lp1 t (nI w) (nI B) 4096 0 z = some z' ∧ (∀ u, u ≠ t + 10 → rI z' u = rI z u) ∧ (∀ v, v < 8 → rI z' (t + 10) v = if B.testBit v then nI w else rI z (t + 10) v) ∧ z'.2 = z.2 := by
  have key := lp_fo (fun m i z => f_X4_sell_lp1 t (nI w) (nI B) m i z) 8 (fun i z => if B.testBit i then wI z (t + 10) i (nI w) else z) (fun z => z) (fun i z' => (∀ u, u ≠ t + 10 → rI z' u = rI z u) ∧ (∀ v, v < 8 → rI z' (t + 10) v = if v < i ∧ B.testBit v = true then nI w else rI z (t + 10) v) ∧ z'.2 = z.2) (fun m z' hP => by
    show f_X4_sell_lp1 t _ _ (m + 1) _ z' = some z'
    rw [f_X4_sell_lp1, if_neg (show ¬ nI 8 < (8 : Int32) from Int32.lt_irrefl)]) (fun m i z' hi hP => by
    obtain ⟨p1, p2, p3⟩ := hP
    by_cases c : B.testBit i = true
    · rw [if_pos c]
      refine ⟨?_, fun u hu => ?_, fun v hv => ?_, p3⟩
      · show f_X4_sell_lp1 t _ _ (m + 1) _ z' = f_X4_sell_lp1 t _ _ m _ _
        rw [f_X4_sell_lp1, if_pos (show nI i < (8 : Int32) from nI_lt (b := 8) hi (by decide)), if_pos ((bit_is (by omega) (by omega)).mpr c), ck_pos (ib_nI hi (by decide)), b1_some, nI_l1, ix_nI (by omega)]
      · rw [rIf_wI, if_neg hu]; exact p1 u hu
      · rw [rI_wI]
        by_cases g : v = i
        · rw [if_pos ⟨rfl, g⟩, if_pos ⟨by omega, by rw [g]; exact c⟩]
        · rw [if_neg (fun q => g q.2), p2 v hv]
          by_cases g2 : v < i ∧ B.testBit v = true
          · rw [if_pos g2, if_pos ⟨by omega, g2.2⟩]
          · rw [if_neg g2, if_neg (fun q => g2 ⟨by omega, q.2⟩)]
    · rw [if_neg c]
      refine ⟨?_, p1, fun v hv => ?_, p3⟩
      · show f_X4_sell_lp1 t _ _ (m + 1) _ z' = f_X4_sell_lp1 t _ _ m _ _
        rw [f_X4_sell_lp1, if_pos (show nI i < (8 : Int32) from nI_lt (b := 8) hi (by decide)), if_neg (fun q => c ((bit_is (by omega) (by omega)).mp q)), b1_some, nI_l1]
      · rw [p2 v hv]
        by_cases g2 : v < i ∧ B.testBit v = true
        · rw [if_pos g2, if_pos ⟨by omega, g2.2⟩]
        · rw [if_neg g2, if_neg (fun q => g2 ⟨by
            rcases Nat.lt_or_ge v i with g | g
            · exact g
            · exact absurd (show B.testBit i = true by rw [← show v = i by omega]; exact q.2) c, q.2⟩)]) 8 0 4096 z (by omega) (by omega) ⟨fun _ _ => rfl, fun v hv => by rw [if_neg (fun q => by omega)], rfl⟩
  obtain ⟨k1, k2, k3, k4⟩ := key
  rw [nI_0] at k1
  refine ⟨_, k1, k2, fun v hv => ?_, k4⟩
  rw [k3 v hv]
  by_cases c : B.testBit v = true
  · rw [if_pos ⟨hv, c⟩, if_pos c]
  · rw [if_neg (fun q => c q.2), if_neg c]
theorem x_sell {s : Rs} {w : Nat} (ht : 20 ≤ t) (d1 : nV t0 ≤ 8) (hw : w < 40) (hk : rI z 9 4 = nI kp) (hk9 : kp ≤ 9) (hk1 : 1 ≤ kp) (h : PX t z t0 (w + 1) s) : ∃ z', f_X4_sell t (nI w) z = some z' ∧ PX t z' t0 (w + 1) (sell kp w s) ∧ FY t z z' := by
  have hok : RsOK (nV t0) (w + 1) (sell kp w s) := h.1.sl_ok (by omega) (by omega)
  have p8 : 2 ^ nV t0 ≤ 256 := Nat.pow_le_pow_right (n := 2) (by decide) d1
  obtain ⟨c1, c2⟩ := came' ⟨w, hw⟩ ⟨kp, by omega⟩
  have hold : (if ((nI w - rI z 9 4) + (1 : Int32)) < 0 then some (0 : Int32) else ck (ib ((nI w - rI z 9 4) + (1 : Int32)) 40) (some (rI z t 12 &&& rI z (t + 5) (ix ((nI w - rI z 9 4) + (1 : Int32)))))) = some (nI (bO (slB kp w s) (nV t0))) := by
    rw [hk]
    by_cases g : kp ≤ w + 1
    · have e := c1 g
      simp only at e
      rw [e, if_neg (nI_pos (by omega)), ck_pos (ib_nI (by omega) (by decide)), ix_nI (by omega), h.2.1, h.2.2.2.2.2.2.2 (w + 1 - kp) (by omega), nI_and, bO_and]
      refine congrArg (fun q => some (nI q)) (bO_congr _ fun v _ => ?_)
      unfold slB
      rw [decide_eq_true g, Bool.true_and]
    · rw [if_pos (c2 g), bO_f (p := slB kp w s) (fun v _ => by unfold slB; rw [decide_eq_false g, Bool.false_and, Bool.and_false])]
      rfl
  obtain ⟨h0, h1, h2, h3, h4, h5, h6, h7⟩ := h
  have hB : bO (slB kp w s) (nV t0) < 256 := Nat.lt_of_lt_of_le (bO_lt _ _) p8
  unfold f_X4_sell
  rw [hold, b1_some]
  have hsl : ∀ v, slB kp w s v = true → v < nV t0 := fun v q => by
    unfold slB at q
    rw [Bool.and_eq_true] at q
    have := (onS_is q.1).1
    cases hc : rC s v with
    | none => exact absurd hc this
    | some c => exact (h0.1 v c hc).2
  by_cases g : bO (slB kp w s) (nV t0) = 0
  · rw [if_pos ((nI_z (by omega)).mpr g)]
    have hno : ∀ v, slB kp w s v = false := fun v => by
      cases hq : slB kp w s v with
      | false => rfl
      | true =>
        have := (anyB_iff (slB kp w s) (nV t0)).mpr ⟨v, hsl v hq, hq⟩
        rw [(bO_zero _ _).mp g] at this
        cases this
    have he : sell kp w s = s := by
      have : (fun v => if slB kp w s v then some w else rG s v) = rG s := funext fun v => by rw [hno v, if_neg (by decide)]
      unfold sell
      rw [this]
    rw [he]
    exact ⟨z, rfl, ⟨h0, h1, h2, h3, h4, h5, h6, h7⟩, FY.refl t z⟩
  · rw [if_neg (fun q => g ((nI_z (by omega)).mp q)), h1, bO_andn _ _ (by omega), show rI (wI z t 12 (nI (bO (fun v => onS s v && !slB kp w s v) (nV t0)))) t 14 = nI (bO (solS s) (nV t0)) by rw [rI_wI, if_neg (fun q => absurd q.2 (by decide))]; exact h3, nI_or, bO_orr]
    obtain ⟨z2, e2, f2, g2, j2⟩ := x_sell_lp (t := t) (z := wI (wI z t 12 (nI (bO (fun v => onS s v && !slB kp w s v) (nV t0)))) t 14 (nI (bO (fun v => solS s v || slB kp w s v) (nV t0)))) (w := w) hB (fun _ => 0)
    rw [e2, b1_some]
    refine ⟨z2, rfl, ⟨hok, ?_, ?_, ?_, ?_, ?_, fun u hu => ⟨?_, ?_⟩, fun x hx => ?_⟩, fun u hu => ?_, fun k hk => ?_, fun u g1 g2 g3 => ?_, fun u q hu => ?_⟩
    · rw [f2 t (by omega), rI_wI, if_neg (fun q => absurd q.2 (by decide)), rI_wI, if_pos ⟨rfl, rfl⟩]
      exact congrArg nI (bO_congr _ fun v _ => sell_on v)
    · rw [f2 t (by omega), rI_wI, if_neg (fun q => absurd q.2 (by decide)), rI_wI, if_neg (fun q => absurd q.2 (by decide)), h2]
      exact congrArg nI (bO_congr _ fun v _ => sell_gi h0 v)
    · rw [f2 t (by omega), rI_wI, if_pos ⟨rfl, rfl⟩]
      exact congrArg nI (bO_congr _ fun v _ => sell_so h0 v)
    · rw [rJ_of j2, rJf_wI, rJf_wI]; exact h4
    · rw [f2 t (by omega), rI_wI, if_neg (fun q => absurd q.2 (by decide)), rI_wI, if_neg (fun q => absurd q.2 (by decide))]; exact h5
    · rw [f2 _ (by omega), rIf_wI, if_neg (by omega), rIf_wI, if_neg (by omega)]; exact (h6 u hu).1
    · rw [g2 u hu, rIf_wI, if_neg (show ¬ t + 10 = t by omega), rIf_wI, if_neg (show ¬ t + 10 = t by omega), (h6 u hu).2]
      show _ = opI (if slB kp w s u then some w else rG s u)
      rw [bO_test]
      cases hq : slB kp w s u with
      | false => rw [Bool.and_false, if_neg (by decide), if_neg (by decide)]
      | true => rw [decide_eq_true (hsl u hq)]; rfl
    · rw [f2 _ (by omega), rIf_wI, if_neg (by omega), rIf_wI, if_neg (by omega)]; exact h7 x hx
    · rw [f2 _ (by omega), rIf_wI, if_neg (by omega), rIf_wI, if_neg (by omega)]
    · rw [f2 t (by omega), rI_wI, if_neg (fun q => by omega), rI_wI, if_neg (fun q => by omega)]
    · rw [f2 _ (by omega), rIf_wI, if_neg (by omega), rIf_wI, if_neg (by omega)]
    · rw [rJ_of j2, rJf_wI, rJf_wI]
/-- the queue, from a place on -/
def NX (t : Nat) (z : Sg) (t1 : Tx) (Cl : Nat → Option (Nat × Nat)) (n : Nat) (q : Nat → Nat) : Prop := n ≤ 52 ∧ rI z t 3 = nI n ∧ (∀ j, j < n → rI z (t + 2) j = nI (q j)) ∧ (∀ i j, i < j → j < n → q i < q j) ∧ ∀ x, (∃ j, j < n ∧ q j = x) ↔ ∃ i w c, Cl i = some (w, c) ∧ x = tkt w (fgB t1.2 c) i c
theorem NX.of {z' : Sg} {n : Nat} {q : Nat → Nat} (h : NX t z t1 Cl n q) (f : FX t z z') : NX t z' t1 Cl n q := by
  unfold NX at *
  rw [f.2.1 3 (by decide), f.2.2.1 2 (by decide) (by decide)]
  exact h
theorem x_lp2 {w : Nat} (ht : 20 ≤ t) (d : DOK t0 t1) (hC : ClOK t1 Cl) (hw : w < 40) {n : Nat} {q : Nat → Nat} : ∀ (dd k fu next : Nat) (z : Sg) (s : Rs), k + dd = 640 → RDx z t0 t1 → LX t z t0 t1 e Hd Cl m → NX t z t1 Cl n q → next ≤ n → n < fu + next → (∀ j, j < next → q j < 8 * (640 * w + k)) → (∀ j, next ≤ j → j < n → 8 * (640 * w + k) ≤ q j) → PX t z t0 (w + 1) s → ∃ next' z', f_X4_play_lp2 t (nI w) fu (nI next) z = some (nI next', z') ∧ next' ≤ n ∧ (∀ j, j < next' → q j < 8 * (640 * (w + 1))) ∧ (∀ j, next' ≤ j → j < n → 8 * (640 * (w + 1)) ≤ q j) ∧ PX t z' t0 (w + 1) (fo (fun k => clS t0 t1 e Cl w (k / 64) (k % 64)) dd k s) ∧ FY t z z'
  | 0, k, fu, next, z, s, hk, r, hL, hN, h1, h2, h3, h4, hP => by
    obtain rfl : k = 640 := by omega
    obtain ⟨fu, rfl⟩ : ∃ f, fu = f + 1 := ⟨fu - 1, by omega⟩
    refine ⟨next, z, ?_, h1, fun j hj => by have := h3 j hj; omega, fun j g1 g2 => by have := h4 j g1 g2; omega, hP, FY.refl t z⟩
    obtain ⟨n1, n2, n3, n4, n5⟩ := hN
    rw [f_X4_play_lp2, n2]
    by_cases c : next < n
    · have hq := h4 next (Nat.le_refl _) c
      obtain ⟨i', w', c', e1, e2⟩ := (n5 (q next)).mp ⟨next, c, rfl⟩
      have g1 := hC i' w' c' e1
      have g2 := d.2.2.2 c' g1.2.2
      have d2 := d.2.1
      have hb : q next < 2 ^ 31 := by rw [e2]; unfold tkt; omega
      rw [if_pos (nI_lt c (by omega)), ck_pos (ib_nI (by omega) (by decide)), ix_nI (by omega), n3 next c, show nI (q next) / (5120 : Int32) = nI (q next / 5120) from pk_div (d := 5120) hb (by decide) (by decide), if_neg (fun g => by have := nI_inj (by omega) (by omega) g; omega), b1_some, if_neg (by decide)]
    · rw [if_neg (nI_nlt (by omega) (by omega)), b1_some, if_neg (by decide)]
  | dd + 1, k, fu, next, z, s, hk, r, hL, hN, h1, h2, h3, h4, hP => by
    have d2 := d.2.1
    obtain ⟨n1, n2, n3, n4, n5⟩ := id hN
    have hmem : ∀ j, j < n → ∃ i' w' c', Cl i' = some (w', c') ∧ q j = 8 * (640 * w' + 64 * fgB t1.2 c' + i') + c' ∧ i' < 52 ∧ w' < 40 ∧ c' < nC t1 ∧ fgB t1.2 c' ≤ 9 := fun j hj => by
      obtain ⟨i', w', c', e1, e2⟩ := (n5 (q j)).mp ⟨j, hj, rfl⟩
      have g1 := hC i' w' c' e1
      exact ⟨i', w', c', e1, by rw [e2]; unfold tkt; omega, g1.1, g1.2.1, g1.2.2, d.2.2.2 c' g1.2.2⟩
    show ∃ next' z', _ ∧ _ ∧ _ ∧ _ ∧ PX t z' t0 (w + 1) (fo (fun k => clS t0 t1 e Cl w (k / 64) (k % 64)) dd (k + 1) (clS t0 t1 e Cl w (k / 64) (k % 64) s)) ∧ _
    by_cases hit : ∃ c, Cl (k % 64) = some (w, c) ∧ fgB t1.2 c = k / 64
    · obtain ⟨c, c1, c2⟩ := hit
      have g1 := hC _ _ _ c1
      have g2 := d.2.2.2 c g1.2.2
      obtain ⟨j, j1, j2⟩ := (n5 (tkt w (fgB t1.2 c) (k % 64) c)).mpr ⟨k % 64, w, c, c1, rfl⟩
      have hT : tkt w (fgB t1.2 c) (k % 64) c = 8 * (640 * w + k) + c := by unfold tkt; omega
      have jn : next ≤ j := by
        rcases Nat.lt_or_ge j next with g | g
        · have := h3 j g; omega
        · exact g
      have hx : ∀ j', next ≤ j' → j' < n → q j' < 8 * (640 * w + k + 1) → q j' = 8 * (640 * w + k) + c := fun j' a1 a2 a3 => by
        have a4 := h4 j' a1 a2
        obtain ⟨i', w', c', b1', b2', b3', b4', b5', b6'⟩ := hmem j' a2
        have : i' = k % 64 ∧ w' = w := by omega
        rw [this.1, c1] at b1'
        have e0 := Option.some.inj b1'
        have e1 : c = c' := congrArg Prod.snd e0
        omega
      have jeq : j = next := by
        rcases Nat.lt_or_eq_of_le jn with g | g
        · have a1 := n4 next j g j1
          have := hx next (Nat.le_refl _) (by omega) (by omega)
          omega
        · exact g.symm
      rw [jeq] at j1 j2
      obtain ⟨fu, rfl⟩ : ∃ f, fu = f + 1 := ⟨fu - 1, by omega⟩
      obtain ⟨z2, e2, p2, f2⟩ := x_serve (i := k % 64) ht r d hw g1.2.2 g1.1 (hL.2.2 c g1.2.2) hP
      obtain ⟨next', z3, e3, a1, a2, a3, a4, a5⟩ := x_lp2 ht d hC hw dd (k + 1) fu (next + 1) z2 (serve t0 t1 e w (k % 64) c s) (by omega) (f2.x.rd ht r) (hL.of f2.x) (hN.of f2.x) (by omega) (by omega) (fun j' hj' => by
        by_cases g : j' = next
        · rw [g, j2]; omega
        · have := h3 j' (by omega); omega) (fun j' b1' b2' => by
        rcases Nat.lt_or_ge (q j') (8 * (640 * w + k + 1)) with g | g
        · have := hx j' (by omega) b2' g
          have := n4 next j' (by omega) b2'
          omega
        · omega) p2
      have ecl : clS t0 t1 e Cl w (k / 64) (k % 64) s = serve t0 t1 e w (k % 64) c s := by
        unfold clS
        rw [c1]
        show (if w = w ∧ fgB t1.2 c = k / 64 then serve t0 t1 e w (k % 64) c s else s) = _
        rw [if_pos ⟨rfl, c2⟩]
      rw [ecl]
      refine ⟨next', z3, ?_, a1, a2, a3, a4, f2.trans a5⟩
      have hb : q next < 2 ^ 31 := by omega
      rw [f_X4_play_lp2, n2, if_pos (nI_lt j1 (by omega)), ck_pos (ib_nI (by omega) (by decide)), ix_nI (by omega), n3 next j1, show nI (q next) / (5120 : Int32) = nI (q next / 5120) from pk_div (d := 5120) hb (by decide) (by decide), if_pos (by rw [show q next / 5120 = w by omega]), b1_some, if_pos rfl, ck_pos (ib_nI (by omega) (by decide)), j2, e2, b1_some, nI_l1]
      exact e3
    · have ecl : clS t0 t1 e Cl w (k / 64) (k % 64) s = s := by
        unfold clS
        cases hq : Cl (k % 64) with
        | none => rfl
        | some x =>
          obtain ⟨w', c⟩ := x
          show (if w' = w ∧ fgB t1.2 c = k / 64 then serve t0 t1 e w (k % 64) c s else s) = _
          rw [if_neg]
          rintro ⟨rfl, b⟩
          exact hit ⟨c, hq, b⟩
      rw [ecl]
      refine x_lp2 ht d hC hw dd (k + 1) fu next z s (by omega) r hL hN h1 h2 (fun j hj => by have := h3 j hj; omega) (fun j b1' b2' => ?_) hP
      have a4 := h4 j b1' b2'
      rcases Nat.lt_or_ge (q j) (8 * (640 * w + k + 1)) with g | g
      · obtain ⟨i', w', c', y1, y2, y3, y4, y5, y6⟩ := hmem j b2'
        have : i' = k % 64 ∧ w' = w ∧ fgB t1.2 c' = k / 64 := by omega
        rw [this.1, this.2.1] at y1
        exact absurd ⟨c', y1, this.2.2⟩ hit
      · omega
/-- what is kept behind each week -/
def BX (t : Nat) (z : Sg) (t0 : Tx) (F : Nat → Rs) (w : Nat) : Prop := ∀ x, x < w → rI z (t + 6) x = nI (bO (onS (F (x + 1))) (nV t0)) ∧ rI z (t + 7) x = nI (bO (givS (F (x + 1))) (nV t0)) ∧ rI z (t + 8) x = nI (bO (solS (F (x + 1))) (nV t0))
theorem x_lp1 (ht : 20 ≤ t) (d : DOK t0 t1) (hC : ClOK t1 Cl) (hk9 : kp ≤ 9) (hk1 : 1 ≤ kp) (hH : ∀ w v, Hd w v = true → v < nV t0) {N n : Nat} {q : Nat → Nat} (hN40 : N ≤ 40) : ∀ (dd w fu next : Nat) (z : Sg), w + dd = N → dd < fu → RDx z t0 t1 → rI z 9 4 = nI kp → LX t z t0 t1 e Hd Cl m → NX t z t1 Cl n q → next ≤ n → (∀ j, j < next → q j < 8 * (640 * w)) → (∀ j, next ≤ j → j < n → 8 * (640 * w) ≤ q j) → PX t z t0 w (rn t0 t1 e kp Hd Cl w) → BX t z t0 (rn t0 t1 e kp Hd Cl) w → ∃ next' z', f_X4_play_lp1 t (nI N + (-1 : Int32)) fu (nI next) (nI w) z = some (next', z') ∧ PX t z' t0 N (rn t0 t1 e kp Hd Cl N) ∧ BX t z' t0 (rn t0 t1 e kp Hd Cl) N ∧ FX t z z'
  | 0, w, fu, next, z, hw, hfu, r, hk, hL, hN, h1, h2, h3, hP, hB => by
    obtain rfl : w = N := by omega
    obtain ⟨fu, rfl⟩ : ∃ f, fu = f + 1 := ⟨fu - 1, by omega⟩
    refine ⟨nI next, z, ?_, hP, hB, FX.refl t z⟩
    have hno : ¬ nI w ≤ nI w + (-1 : Int32) := by
      cases w with
      | zero => decide
      | succ w => rw [nI_m1]; exact nI_ge (by omega) (by omega)
    rw [f_X4_play_lp1, if_neg hno, b1_some, if_neg (by decide)]
  | dd + 1, w, fu, next, z, hw, hfu, r, hk, hL, hN, h1, h2, h3, hP, hB => by
    obtain ⟨fu, rfl⟩ : ∃ f, fu = f + 1 := ⟨fu - 1, by omega⟩
    obtain ⟨N', rfl⟩ : ∃ N', N = N' + 1 := ⟨N - 1, by omega⟩
    obtain ⟨za, ea, pa, fa⟩ := x_bringIn (Hd := Hd) ht d.1 (show w < 40 by omega) (hL.1 w (by omega)) (hH w) hP
    obtain ⟨next', zb, eb, b1', b2', b3', pb, fb⟩ := x_lp2 (e := e) (Hd := Hd) (m := m) ht d hC (show w < 40 by omega) 640 0 4096 next za (bring Hd w (rn t0 t1 e kp Hd Cl w)) (by omega) (fa.x.rd ht r) (hL.of fa.x) (hN.of fa.x) h1 (by have := hN.1; omega) (fun j hj => by have := h2 j hj; omega) (fun j g1 g2 => by have := h3 j g1 g2; omega) pa
    rw [← clW_flat] at pb
    have fab := fa.trans fb
    obtain ⟨zc, ec, pc, fc⟩ := x_sell (kp := kp) ht d.1 (show w < 40 by omega) (by rw [fab.1 9 (by omega)]; exact hk) hk9 hk1 pb
    have fabc := fab.trans fc
    have hrn : sell kp w (clW t0 t1 e Cl w (bring Hd w (rn t0 t1 e kp Hd Cl w))) = rn t0 t1 e kp Hd Cl (w + 1) := (rn_s t0 t1 e kp Hd Cl w).symm
    rw [hrn] at pc
    have e1 : rI (wI zc (t + 6) w (rI zc t 12)) t 13 = rI zc t 13 := by rw [rI_wI, if_neg (fun g => by omega)]
    have e2 : rI (wI (wI zc (t + 6) w (rI zc t 12)) (t + 7) w (rI zc t 13)) t 14 = rI zc t 14 := by rw [rI_wI, if_neg (fun g => by omega), rI_wI, if_neg (fun g => by omega)]
    obtain ⟨P0, P1, P2, P3, P4, P5, P6, P7⟩ := pc
    have fz : ∀ u, u ≠ t + 6 → u ≠ t + 7 → u ≠ t + 8 → rI (wI (wI (wI zc (t + 6) w (rI zc t 12)) (t + 7) w (rI zc t 13)) (t + 8) w (rI zc t 14)) u = rI zc u := fun u g1 g2 g3 => by rw [rIf_wI, if_neg g3, rIf_wI, if_neg g2, rIf_wI, if_neg g1]
    have fd : FX t zc (wI (wI (wI zc (t + 6) w (rI zc t 12)) (t + 7) w (rI zc t 13)) (t + 8) w (rI zc t 14)) := ⟨fun u hu => fz u (by omega) (by omega) (by omega), fun k hk => by rw [fz t (by omega) (by omega) (by omega)], fun u g1 g2 => fz _ (by omega) (by omega) (by omega), fun u q hu => rfl⟩
    have fall := fabc.x.trans fd
    have pd : PX t (wI (wI (wI zc (t + 6) w (rI zc t 12)) (t + 7) w (rI zc t 13)) (t + 8) w (rI zc t 14)) t0 (w + 1) (rn t0 t1 e kp Hd Cl (w + 1)) := by
      refine ⟨P0, ?_, ?_, ?_, P4, ?_, fun v hv => ?_, fun x hx => ?_⟩
      · rw [fz t (by omega) (by omega) (by omega)]; exact P1
      · rw [fz t (by omega) (by omega) (by omega)]; exact P2
      · rw [fz t (by omega) (by omega) (by omega)]; exact P3
      · rw [fz t (by omega) (by omega) (by omega)]; exact P5
      · rw [fz _ (by omega) (by omega) (by omega), fz _ (by omega) (by omega) (by omega)]; exact P6 v hv
      · rw [fz _ (by omega) (by omega) (by omega)]; exact P7 x hx
    obtain ⟨nx, z', e', p', bx', f'⟩ := x_lp1 ht d hC hk9 hk1 hH hN40 dd (w + 1) fu next' _ (by omega) (by omega) (fall.rd ht r) (by rw [fall.1 9 (by omega)]; exact hk) (hL.of fall) (hN.of fall) b1' b2' b3' pd (fun x hx => by
      rw [rI_wI, rI_wI, rI_wI, rI_wI, rI_wI, rI_wI, rI_wI, rI_wI, rI_wI]
      by_cases g : x = w
      · rw [if_neg (fun q => by omega), if_neg (fun q => by omega), if_pos ⟨rfl, g⟩, if_neg (fun q => by omega), if_pos ⟨rfl, g⟩, if_pos ⟨rfl, g⟩, g]
        exact ⟨P1, P2, P3⟩
      · rw [if_neg (fun q => g q.2), if_neg (fun q => g q.2), if_neg (fun q => g q.2), if_neg (fun q => g q.2), if_neg (fun q => g q.2), if_neg (fun q => g q.2), if_neg (fun q => g q.2), if_neg (fun q => g q.2), if_neg (fun q => g q.2), fabc.2.2.1 6 (by omega) (by omega) (by omega), fabc.2.2.1 7 (by omega) (by omega) (by omega), fabc.2.2.1 8 (by omega) (by omega) (by omega)]
        exact hB x (by omega))
    refine ⟨nx, z', ?_, p', bx', fall.trans f'⟩
    rw [f_X4_play_lp1, if_pos (show nI w ≤ nI (N' + 1) + (-1 : Int32) by rw [nI_m1]; exact nI_le (by omega) (by omega)), if_pos (show nI w < (40 : Int32) from nI_lt (b := 40) (by omega) (by decide)), b1_some, if_pos rfl, ea, b1_some, eb, b2_some, ec, b1_some, ck_pos (ib_nI (show w < 40 by omega) (by decide)), ck_pos (ib_nI (show w < 40 by omega) (by decide)), ck_pos (ib_nI (show w < 40 by omega) (by decide)), ix_nI (by omega), e1, e2, nI_l1]
    exact e'
theorem x_play (ht : 20 ≤ t) (r : RDx z t0 t1) (d : DOK t0 t1) (hk : rI z 9 4 = nI kp) (hk9 : kp ≤ 9) (hk1 : 1 ≤ kp) (hC : ClOK t1 Cl) (hH : ∀ w v, Hd w v = true → v < nV t0) (hL : LX t z t0 t1 e Hd Cl m) (hm : m ≤ 52) {N : Nat} (hN : N ≤ 40) : ∃ z', f_X4_play t (nI N + (-1 : Int32)) z = some z' ∧ PX t z' t0 N (rn t0 t1 e kp Hd Cl N) ∧ BX t z' t0 (rn t0 t1 e kp Hd Cl) N ∧ FX t z z' := by
  obtain ⟨z1, e1, p1, f1⟩ := x_begin (z := z) (t0 := t0) ht
  obtain ⟨n, q, q1, q2, q3, q4, q5⟩ := (hL.of f1).2.1
  obtain ⟨nx, z2, e2, p2, b2', f2⟩ := x_lp1 (e := e) (m := m) ht d hC hk9 hk1 hH hN N 0 4096 0 z1 (by omega) (by omega) (f1.rd ht r) (by rw [f1.1 9 (by omega)]; exact hk) (hL.of f1) ⟨by omega, q2, q3, q4, q5⟩ (by omega) (fun j hj => by omega) (fun j _ _ => by omega) p1 (fun x hx => by omega)
  rw [nI_0] at e2
  refine ⟨z2, ?_, p2, b2', f1.trans f2⟩
  unfold f_X4_play
  rw [e1, b1_some, e2, b2_some]
end Play2
