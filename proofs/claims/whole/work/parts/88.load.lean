/-! THE WEEKS: the class takes in what is told. -/
theorem RDx.fr {z z' : Sg} {t0 t1 : Tx} (r : RDx z t0 t1) (h : ∀ u, u < 20 → rI z' u = rI z u) : RDx z' t0 t1 := by
  unfold RDx at *
  rw [h 1 (by decide), h 3 (by decide), h 4 (by decide), h 5 (by decide), h 6 (by decide), h 7 (by decide), h 8 (by decide)]
  exact r
def tkt (w r i c : Nat) : Nat := 5120 * w + 512 * r + 8 * i + c
theorem tkt_inj {w r i c w' r' i' c' : Nat} (h : tkt w r i c = tkt w' r' i' c') (hr : r < 10) (hi : i < 64) (hc : c < 8) (hr' : r' < 10) (hi' : i' < 64) (hc' : c' < 8) : w = w' ∧ r = r' ∧ i = i' ∧ c = c' := by
  unfold tkt at h
  omega
def QX (t : Nat) (z : Sg) (t1 : Tx) (Cl : Nat → Option (Nat × Nat)) (m : Nat) : Prop := ∃ (n : Nat) (q : Nat → Nat), n ≤ m ∧ rI z t 3 = nI n ∧ (∀ j, j < n → rI z (t + 2) j = nI (q j)) ∧ (∀ i j, i < j → j < n → q i < q j) ∧ ∀ x, (∃ j, j < n ∧ q j = x) ↔ ∃ i w c, Cl i = some (w, c) ∧ x = tkt w (fgB t1.2 c) i c
theorem QX.of {t : Nat} {z z' : Sg} {t1 : Tx} {Cl : Nat → Option (Nat × Nat)} {m : Nat} (h : QX t z t1 Cl m) (h1 : rI z' t 3 = rI z t 3) (h2 : rI z' (t + 2) = rI z (t + 2)) : QX t z' t1 Cl m := by
  unfold QX at *
  rw [h1, h2]
  exact h
def insQ (q : Nat → Nat) (p T j : Nat) : Nat := if j < p then q j else if j = p then T else q (j - 1)
theorem insQ_l {q : Nat → Nat} {p T j : Nat} (h : j < p) : insQ q p T j = q j := if_pos h
theorem insQ_e {q : Nat → Nat} {p T j : Nat} (h : j = p) : insQ q p T j = T := by unfold insQ; rw [if_neg (by omega), if_pos h]
theorem insQ_g {q : Nat → Nat} {p T j : Nat} (h : p < j) : insQ q p T j = q (j - 1) := by unfold insQ; rw [if_neg (by omega), if_neg (by omega)]
def clU (t1 : Tx) (Cl : Nat → Option (Nat × Nat)) (i w c : Nat) : Nat → Option (Nat × Nat) := fun j => if j = i then (if c < nC t1 then some (w, c) else none) else Cl j
theorem x_ins {t : Nat} {z : Sg} {n T : Nat} {q : Nat → Nat} (hT : T < 2 ^ 31) (hq : ∀ j, j < n → q j < 2 ^ 31) (hn : n < 52) : ∀ (at_ fu : Nat) (z' : Sg), at_ ≤ n → (∀ j, j < at_ → rI z' (t + 2) j = nI (q j)) → (∀ j, at_ < j → j ≤ n → rI z' (t + 2) j = nI (q (j - 1))) → (∀ j, at_ ≤ j → j < n → T < q j) → (∀ u, u ≠ t + 2 → rI z' u = rI z u) → z'.2 = z.2 → ∃ p z'', f_X4_come_lp1 t (nI T) (fu + 1 + at_) (nI at_) z' = some (nI p, z'') ∧ p ≤ n ∧ (∀ j, j < p → rI z'' (t + 2) j = nI (q j)) ∧ (∀ j, p < j → j ≤ n → rI z'' (t + 2) j = nI (q (j - 1))) ∧ (∀ j, p ≤ j → j < n → T < q j) ∧ (p = 0 ∨ q (p - 1) ≤ T) ∧ (∀ u, u ≠ t + 2 → rI z'' u = rI z u) ∧ z''.2 = z.2
  | 0, fu, z', h1, h2, h3, h4, h5, h6 => by
    refine ⟨0, z', ?_, h1, h2, h3, h4, Or.inl rfl, h5, h6⟩
    rw [show fu + 1 + 0 = fu + 1 from rfl, f_X4_come_lp1, if_neg (show ¬ (0 : Int32) < nI 0 from Int32.lt_irrefl), b1_some, if_neg (by decide)]
  | at_ + 1, fu, z', h1, h2, h3, h4, h5, h6 => by
    have e0 : nI (at_ + 1) - (1 : Int32) = nI at_ := nI_pred at_
    rw [show fu + 1 + (at_ + 1) = (fu + 1 + at_) + 1 by omega, f_X4_come_lp1, if_pos (show (0 : Int32) < nI (at_ + 1) from nI_lt (a := 0) (by omega) (by omega)), e0, ck_pos (ib_nI (show at_ < 52 by omega) (by decide)), ix_nI (by omega), h2 at_ (by omega)]
    have ec := nI_ltI (a := T) (b := q at_) hT (hq at_ (by omega))
    by_cases c : T < q at_
    · rw [if_pos (ec.mpr c), b1_some, if_pos rfl, ck_pos (ib_nI (show at_ < 52 by omega) (by decide)), ck_pos (ib_nI (show at_ + 1 < 52 by omega) (by decide)), nI_m1, ix_nI (by omega)]
      refine x_ins hT hq hn at_ fu _ (by omega) (fun j hj => ?_) (fun j g1 g2 => ?_) (fun j g1 g2 => ?_) (fun u hu => ?_) h6
      · rw [rI_wI, if_neg (fun t => by omega)]; exact h2 j (by omega)
      · rw [rI_wI]
        by_cases g : j = at_ + 1
        · rw [if_pos ⟨rfl, g⟩, g]; rfl
        · rw [if_neg (fun t => g t.2)]; exact h3 j (by omega) g2
      · by_cases g : j = at_
        · rw [g]; exact c
        · exact h4 j (by omega) g2
      · rw [rIf_wI, if_neg hu]; exact h5 u hu
    · rw [if_neg (fun g => c (ec.mp g)), b1_some, if_neg (by decide)]
      exact ⟨at_ + 1, z', rfl, h1, h2, h3, h4, Or.inr (by rw [Nat.add_sub_cancel]; omega), h5, h6⟩
section Load
variable {t : Nat} {z : Sg} {t0 t1 : Tx} {Cl : Nat → Option (Nat × Nat)} {m : Nat}
theorem x_come (ht : 20 ≤ t) (r : RDx z t0 t1) (d : DOK t0 t1) (hC : ClOK t1 Cl) (hQ : QX t z t1 Cl m) (hm : m < 52) {w c i : Nat} (hw : w < 40) (hc : c < 8) (hi : i < 52) (hn : Cl i = none) : ∃ z', f_X4_come t (nI w) (nI c) (nI i) z = some z' ∧ QX t z' t1 (clU t1 Cl i w c) (m + 1) ∧ (∀ u, u ≠ t → u ≠ t + 2 → rI z' u = rI z u) ∧ (∀ k, k ≠ 3 → rI z' t k = rI z t k) ∧ z'.2 = z.2 := by
  have d2 := d.2.1
  unfold f_X4_come
  rw [r.2.1]
  by_cases g : c < nC t1
  · obtain ⟨n, q, q1, q2, q3, q4, q5⟩ := hQ
    have hf := d.2.2.2 c g
    have hqb : ∀ j, j < n → q j < 2 ^ 31 := fun j hj => by
      obtain ⟨i', w', c', e1, e2⟩ := (q5 (q j)).mp ⟨j, hj, rfl⟩
      have g1 := hC i' w' c' e1
      have g2 := d.2.2.2 c' g1.2.2
      rw [e2]
      unfold tkt
      omega
    have hT : tkt w (fgB t1.2 c) i c < 2 ^ 31 := by unfold tkt; omega
    have hTn : ∀ j, j < n → q j ≠ tkt w (fgB t1.2 c) i c := fun j hj e => by
      obtain ⟨i', w', c', e1, e2⟩ := (q5 (q j)).mp ⟨j, hj, rfl⟩
      have g1 := hC i' w' c' e1
      have g2 := d.2.2.2 c' g1.2.2
      have := tkt_inj (e2.symm.trans e) (by omega) (by omega) (by omega) (by omega) (by omega) (by omega)
      rw [this.2.2.1, hn] at e1
      cases e1
    have eT : nI w * (5120 : Int32) + rI z 8 (ix (nI c)) * (512 : Int32) + nI i * (8 : Int32) + nI c = nI (tkt w (fgB t1.2 c) i c) := by
      rw [ix_nI (by omega), (r.2.2.2 c g).2.2, show (5120 : Int32) = nI 5120 from rfl, show (512 : Int32) = nI 512 from rfl, show (8 : Int32) = nI 8 from rfl, nI_mul, nI_mul, nI_mul, nI_plus, nI_plus, nI_plus]
      unfold tkt
      rw [Nat.mul_comm w, Nat.mul_comm (fgB t1.2 c), Nat.mul_comm i]
    obtain ⟨p, z2, e, p1, p2, p3, p4, p5, p6, p7⟩ := x_ins (t := t) (z := z) hT hqb (show n < 52 by omega) n (4095 - n) z (Nat.le_refl _) q3 (fun j g1 g2 => by omega) (fun j g1 g2 => by omega) (fun _ _ => rfl) rfl
    rw [show 4095 - n + 1 + n = 4096 by omega] at e
    rw [q2, if_neg (show ¬ nI (nC t1) ≤ nI c from nI_ge g (by omega)), if_neg (show ¬ (52 : Int32) ≤ nI n from nI_ge (b := 52) (by omega) (by decide)), b1_some, if_neg (by decide), ck_pos (ib_nI hc (by decide)), eT, e, b2_some, ck_pos (ib_nI (show p < 52 by omega) (by decide)), ix_nI (by omega), show rI (wI z2 (t + 2) p (nI (tkt w (fgB t1.2 c) i c))) t 3 = nI n by rw [rI_wI, if_neg (fun g => by omega), p6 t (by omega), q2], nI_l1]
    refine ⟨_, rfl, ⟨n + 1, insQ q p (tkt w (fgB t1.2 c) i c), by omega, ?_, ?_, ?_, ?_⟩, ?_, ?_, p7⟩
    · rw [rI_wI, if_pos ⟨rfl, rfl⟩]
    · intro j hj
      rw [rI_wI, if_neg (fun g => by omega), rI_wI]
      by_cases g1 : j = p
      · rw [if_pos ⟨rfl, g1⟩, insQ_e g1]
      · rw [if_neg (fun t => g1 t.2)]
        by_cases g2 : j < p
        · rw [insQ_l g2]; exact p2 j g2
        · rw [insQ_g (by omega)]; exact p3 j (by omega) (by omega)
    · intro a b hab hb
      have lo : ∀ x, x < p → q x < tkt w (fgB t1.2 c) i c := fun x hx => by
        rcases p5 with g1 | g1
        · omega
        · have : q (p - 1) ≠ tkt w (fgB t1.2 c) i c := hTn (p - 1) (by omega)
          by_cases g2 : x = p - 1
          · rw [g2]; omega
          · have := q4 x (p - 1) (by omega) (by omega); omega
      by_cases a1 : a < p
      · rw [insQ_l a1]
        by_cases g1 : b < p
        · rw [insQ_l g1]; exact q4 a b hab (by omega)
        · by_cases g2 : b = p
          · rw [insQ_e g2]; exact lo a a1
          · rw [insQ_g (by omega)]
            have := p4 (b - 1) (by omega) (by omega)
            have := lo a a1
            omega
      · rw [insQ_g (show p < b by omega)]
        by_cases a2 : a = p
        · rw [insQ_e a2]; exact p4 (b - 1) (by omega) (by omega)
        · rw [insQ_g (by omega)]; exact q4 (a - 1) (b - 1) (by omega) (by omega)
    · intro x
      constructor
      · rintro ⟨j, hj, e1⟩
        by_cases j1 : j < p
        · rw [insQ_l j1] at e1
          obtain ⟨i', w', c', e2, e3⟩ := (q5 x).mp ⟨j, by omega, e1⟩
          exact ⟨i', w', c', by unfold clU; rw [if_neg (fun g => by rw [g, hn] at e2; cases e2)]; exact e2, e3⟩
        · by_cases j2 : j = p
          · rw [insQ_e j2] at e1
            exact ⟨i, w, c, by unfold clU; rw [if_pos rfl, if_pos g], e1.symm⟩
          · rw [insQ_g (by omega)] at e1
            obtain ⟨i', w', c', e2, e3⟩ := (q5 x).mp ⟨j - 1, by omega, e1⟩
            exact ⟨i', w', c', by unfold clU; rw [if_neg (fun g => by rw [g, hn] at e2; cases e2)]; exact e2, e3⟩
      · rintro ⟨i', w', c', e2, e3⟩
        unfold clU at e2
        by_cases g1 : i' = i
        · rw [if_pos g1, if_pos g] at e2
          cases e2
          exact ⟨p, by omega, by rw [insQ_e rfl, e3, g1]⟩
        · rw [if_neg g1] at e2
          obtain ⟨j, hj, e4⟩ := (q5 x).mpr ⟨i', w', c', e2, e3⟩
          by_cases j1 : j < p
          · exact ⟨j, by omega, by rw [insQ_l j1]; exact e4⟩
          · exact ⟨j + 1, by omega, by rw [insQ_g (by omega), Nat.add_sub_cancel]; exact e4⟩
    · intro u h1 h2
      rw [rIf_wI, if_neg h1, rIf_wI, if_neg h2]; exact p6 u h2
    · intro k hk
      rw [rI_wI, if_neg (fun g => hk g.2), rI_wI, if_neg (fun g => by omega), p6 t (by omega)]
  · refine ⟨z, ?_, ?_, fun _ _ _ => rfl, fun _ _ => rfl, rfl⟩
    · rw [if_pos (show nI (nC t1) ≤ nI c from nI_le (by omega) (by omega)), b1_some, if_pos rfl]
    · have e : clU t1 Cl i w c = Cl := by
        funext j
        unfold clU
        by_cases g1 : j = i
        · rw [if_pos g1, if_neg g, g1, hn]
        · rw [if_neg g1]
      rw [e]
      obtain ⟨n, q, q1, q2⟩ := hQ
      exact ⟨n, q, by omega, q2⟩
def hdU (t0 : Tx) (Hd : Nat → Nat → Bool) (w v : Nat) : Nat → Nat → Bool := fun w' v' => Hd w' v' || (decide (v' < nV t0) && (decide (w = w') && decide (v = v')))
theorem x_hand {Hd : Nat → Nat → Bool} (ht : 20 ≤ t) (r : RDx z t0 t1) (d1 : nV t0 ≤ 8) (hH : ∀ w, w < 40 → rI z (t + 1) w = nI (bO (Hd w) (nV t0))) {w v : Nat} (hw : w < 40) (hv : v < 8) : ∃ z', f_X4_hand t (nI w) (nI v) z = some z' ∧ (∀ w', w' < 40 → rI z' (t + 1) w' = nI (bO (hdU t0 Hd w v w') (nV t0))) ∧ (∀ u, u ≠ t + 1 → rI z' u = rI z u) ∧ z'.2 = z.2 := by
  unfold f_X4_hand
  rw [r.1]
  by_cases g : v < nV t0
  · rw [if_pos (nI_lt g (by omega)), ck_pos (ib_nI hw (by decide)), ck_pos (ib_nI hw (by decide)), b1_some, ix_nI (by omega), hH w hw, one_shl (by omega), nI_or, bO_set (Hd w) g]
    refine ⟨_, rfl, fun w' hw' => ?_, fun u hu => by rw [rIf_wI, if_neg hu], rfl⟩
    rw [rI_wI]
    by_cases e : w' = w
    · rw [if_pos ⟨rfl, e⟩, e]
      refine congrArg nI (bO_congr _ fun j hj => ?_)
      unfold hdU
      rw [decide_eq_true hj, decide_eq_true (show w = w from rfl)]
      simp [eq_comm]
    · rw [if_neg (fun g => e g.2), hH w' hw']
      refine congrArg nI (bO_congr _ fun j hj => ?_)
      unfold hdU
      rw [decide_eq_false (show ¬ w = w' from fun g => e g.symm)]
      simp
  · rw [if_neg (nI_nlt (by omega) (by omega)), b1_some]
    refine ⟨z, rfl, fun w' hw' => ?_, fun _ _ => rfl, rfl⟩
    rw [hH w' hw']
    refine congrArg nI (bO_congr _ fun j hj => ?_)
    unfold hdU
    rw [decide_eq_false (show ¬ v = j by omega)]
    simp
def alw (t0 t1 : Tx) (e c v : Nat) : Bool := enou t1 e c && fit t0 t1 c v
theorem x_saysEnough (r : RDx z t0 t1) {e c : Nat} (he : rI z 9 2 = nI e) (he4 : e ≤ 4) (d2 : nC t1 ≤ 8) (hc : c < nC t1) : f_X2_saysEnough (nI c) z = some (if enou t1 e c then 1 else 0) := by
  have h2 := saB_lt t1.2 c
  have hp := pc8_le (saB t1.2 c)
  unfold f_X2_saysEnough
  rw [ck_pos (ib_nI (by omega) (by decide)), ix_nI (by omega), (r.2.2.2 c hc).1, x_bitCount (by omega), b1_some, he]
  have ec := nI_leI (a := e) (b := pc8 (saB t1.2 c)) (by omega) (by omega)
  unfold enou
  by_cases g : e ≤ pc8 (saB t1.2 c)
  · rw [if_pos (ec.mpr g), decide_eq_true g]; rfl
  · rw [if_neg (fun q => g (ec.mp q)), decide_eq_false g]; rfl
theorem x_load1 (ht : 20 ≤ t) (r : RDx z t0 t1) (d : DOK t0 t1) {e : Nat} (he : rI z 9 2 = nI e) (he4 : e ≤ 4) : ∃ z', f_X4_load_lp1 t 4096 0 z = some z' ∧ (∀ c, c < nC t1 → rI z' (t + 3) c = nI (bO (fit t0 t1 c) (nV t0)) ∧ rI z' (t + 4) c = nI (bO (alw t0 t1 e c) (nV t0))) ∧ (∀ u, u ≠ t + 3 → u ≠ t + 4 → rI z' u = rI z u) ∧ z'.2 = z.2 := by
  have d2 := d.2.1
  have key := lp_fo (fun m i z => f_X4_load_lp1 t m i z) (nC t1) (fun c z => wI (wI z (t + 3) c (nI (bO (fit t0 t1 c) (nV t0)))) (t + 4) c (nI (bO (alw t0 t1 e c) (nV t0)))) (fun z => z) (fun i z' => (∀ c, c < i → rI z' (t + 3) c = nI (bO (fit t0 t1 c) (nV t0)) ∧ rI z' (t + 4) c = nI (bO (alw t0 t1 e c) (nV t0))) ∧ (∀ u, u ≠ t + 3 → u ≠ t + 4 → rI z' u = rI z u) ∧ z'.2 = z.2) (fun m z' hP => by
    show f_X4_load_lp1 t (m + 1) _ z' = some z'
    rw [f_X4_load_lp1, hP.2.1 5 (by omega) (by omega), r.2.1, if_neg Int32.lt_irrefl]) (fun m c z' hc hP => by
    obtain ⟨p1, p2, p3⟩ := hP
    have r' : RDx z' t0 t1 := r.fr (fun u hu => p2 u (by omega) (by omega))
    refine ⟨?_, fun c' hc' => ?_, fun u h1 h2 => ?_, p3⟩
    · show f_X4_load_lp1 t (m + 1) _ z' = f_X4_load_lp1 t m _ _
      have r2 : RDx (wI z' (t + 3) c (nI (bO (fit t0 t1 c) (nV t0)))) t0 t1 := r'.fr (fun u hu => by rw [rIf_wI, if_neg (by omega)])
      have he2 : rI (wI z' (t + 3) c (nI (bO (fit t0 t1 c) (nV t0)))) 9 2 = nI e := by rw [rIf_wI, if_neg (by omega), p2 9 (by omega) (by omega)]; exact he
      rw [f_X4_load_lp1, r'.2.1, if_pos (nI_lt hc (by omega)), x_virtuesFittedBy r' d hc, b1_some, ck_pos (ib_nI (show c < 8 by omega) (by decide)), ix_nI (by omega), x_saysEnough r2 he2 he4 d2 hc, b1_some, nI_l1]
      cases hb : enou t1 e c with
      | true =>
        rw [if_pos rfl, if_pos ne10, ck_pos (ib_nI (show c < 8 by omega) (by decide)), b1_some, ck_pos (ib_nI (show c < 8 by omega) (by decide)), show rI (wI z' (t + 3) c (nI (bO (fit t0 t1 c) (nV t0)))) (t + 3) c = nI (bO (fit t0 t1 c) (nV t0)) by rw [rI_wI, if_pos ⟨rfl, rfl⟩], bO_congr (p := alw t0 t1 e c) (q := fit t0 t1 c) (nV t0) (fun j _ => by unfold alw; rw [hb]; rfl)]
      | false =>
        rw [if_neg (by decide), b1_some, ck_pos (ib_nI (show c < 8 by omega) (by decide)), show bO (alw t0 t1 e c) (nV t0) = 0 from (bO_zero _ _).mpr (by
          cases hq : anyB (alw t0 t1 e c) (nV t0) with
          | false => rfl
          | true =>
            obtain ⟨j, -, hj⟩ := (anyB_iff _ _).mp hq
            unfold alw at hj
            rw [hb] at hj
            cases hj)]
        rfl
    · rw [rI_wI, rI_wI, rI_wI, rI_wI]
      by_cases g : c' = c
      · rw [if_neg (fun t => by omega), if_pos ⟨rfl, g⟩, if_pos ⟨rfl, g⟩, g]
        exact ⟨rfl, rfl⟩
      · rw [if_neg (fun t => g t.2), if_neg (fun t => g t.2), if_neg (fun t => g t.2), if_neg (fun t => g t.2)]
        exact p1 c' (by omega)
    · rw [rIf_wI, if_neg h2, rIf_wI, if_neg h1]; exact p2 u h1 h2) (nC t1) 0 4096 z (by omega) (by omega) ⟨fun c h => by omega, fun _ _ _ => rfl, rfl⟩
  obtain ⟨k1, k2, k3, k4⟩ := key
  rw [nI_0] at k1
  exact ⟨_, k1, k2, k3, k4⟩
/-- handings told: the first n of a book -/
def hdN (t0 : Tx) (hw hv : Nat → Nat) (n : Nat) : Nat → Nat → Bool := fun w v => decide (v < nV t0) && anyB (fun k => decide (hw k = w) && decide (hv k = v)) n
theorem hdN_s (t0 : Tx) (hw hv : Nat → Nat) (n : Nat) : hdN t0 hw hv (n + 1) = hdU t0 (hdN t0 hw hv n) (hw n) (hv n) := by
  funext w v
  show (decide (v < nV t0) && anyB (fun k => decide (hw k = w) && decide (hv k = v)) (n + 1)) = ((decide (v < nV t0) && anyB (fun k => decide (hw k = w) && decide (hv k = v)) n) || (decide (v < nV t0) && (decide (hw n = w) && decide (hv n = v))))
  rw [anyB_s]
  cases decide (v < nV t0) <;> rfl
/-- claims told: the first n of a book -/
def clN (t1 : Tx) (cw co : Nat → Nat) (n : Nat) : Nat → Option (Nat × Nat) := fun i => if i < n ∧ co i < nC t1 then some (cw i, co i) else none
theorem clN_s (t1 : Tx) (cw co : Nat → Nat) (n : Nat) : clN t1 cw co (n + 1) = clU t1 (clN t1 cw co n) n (cw n) (co n) := by
  funext i
  show (if i < n + 1 ∧ co i < nC t1 then some (cw i, co i) else none) = if i = n then (if co n < nC t1 then some (cw n, co n) else none) else if i < n ∧ co i < nC t1 then some (cw i, co i) else none
  by_cases g : i = n
  · rw [if_pos g, g]
    by_cases g2 : co n < nC t1
    · rw [if_pos ⟨by omega, g2⟩, if_pos g2]
    · rw [if_neg (fun q => g2 q.2), if_neg g2]
  · rw [if_neg g]
    by_cases g2 : i < n ∧ co i < nC t1
    · rw [if_pos g2, if_pos ⟨by omega, g2.2⟩]
    · rw [if_neg g2, if_neg (fun q => g2 ⟨by omega, q.2⟩)]
theorem clN_ok {cw co : Nat → Nat} {n : Nat} (hn : n ≤ 52) (hw : ∀ i, i < n → cw i < 40) : ClOK t1 (clN t1 cw co n) := by
  intro i w c h
  unfold clN at h
  by_cases g : i < n ∧ co i < nC t1
  · rw [if_pos g] at h
    cases h
    exact ⟨by omega, hw i g.1, g.2⟩
  · rw [if_neg g] at h; cases h
theorem x_load2 (ht : 20 ≤ t) (r : RDx z t0 t1) (d : DOK t0 t1) {b : Bk} (hB : BkX (rI z 10) (rI z 11) (rI z 12) b) (h0 : ∀ w, w < 40 → rI z (t + 1) w = 0) : ∃ z', f_X4_load_lp2 t 10 4096 0 z = some z' ∧ (∀ w, w < 40 → rI z' (t + 1) w = nI (bO (hdN t0 b.2.1 b.2.2 b.1 w) (nV t0))) ∧ (∀ u, u ≠ t + 1 → rI z' u = rI z u) ∧ z'.2 = z.2 := by
  obtain ⟨y1, y2, y3⟩ := hB
  have key : ∀ (e i n : Nat) (z' : Sg), i + e = b.1 → (∀ w, w < 40 → rI z' (t + 1) w = nI (bO (hdN t0 b.2.1 b.2.2 i w) (nV t0))) → (∀ u, u ≠ t + 1 → rI z' u = rI z u) → z'.2 = z.2 → ∃ z'', f_X4_load_lp2 t 10 (n + 1 + e) (nI i) z' = some z'' ∧ (∀ w, w < 40 → rI z'' (t + 1) w = nI (bO (hdN t0 b.2.1 b.2.2 b.1 w) (nV t0))) ∧ (∀ u, u ≠ t + 1 → rI z'' u = rI z u) ∧ z''.2 = z.2 := by
    intro e
    induction e with
    | zero =>
      intro i n z' hi h1 h2 h3
      obtain rfl : i = b.1 := by omega
      refine ⟨z', ?_, h1, h2, h3⟩
      rw [show n + 1 + 0 = n + 1 from rfl, f_X4_load_lp2, h2 10 (by omega), y1, if_neg Int32.lt_irrefl]
    | succ e ih =>
      intro i n z' hi h1 h2 h3
      obtain ⟨g1, g2, g3, g4⟩ := y3 i (by omega)
      obtain ⟨z2, e2, i2, j2, k2⟩ := x_hand (z := z') ht (r.fr (fun u hu => h2 u (by omega))) d.1 h1 g3 g4
      obtain ⟨z3, e3, i3⟩ := ih (i + 1) n z2 (by omega) (fun w hw => by rw [hdN_s]; exact i2 w hw) (fun u hu => (j2 u hu).trans (h2 u hu)) (k2.trans h3)
      refine ⟨z3, ?_, i3⟩
      rw [show n + 1 + (e + 1) = (n + 1 + e) + 1 by omega, f_X4_load_lp2, h2 10 (by omega), y1, if_pos (nI_lt (show i < b.1 by omega) (by omega)), ck_pos (ib_nI (show i < 12 by omega) (by decide)), ck_pos (ib_nI (show i < 12 by omega) (by decide)), ix_nI (by omega), show 10 + 1 = 11 from rfl, show 10 + 2 = 12 from rfl, h2 11 (by omega), h2 12 (by omega), g1, g2, e2, b1_some, nI_l1]
      exact e3
  have := key b.1 0 (4095 - b.1) z (by omega) (fun w hw => by
    rw [h0 w hw, show bO (hdN t0 b.2.1 b.2.2 0 w) (nV t0) = 0 from (bO_zero _ _).mpr (by
      cases hq : anyB (hdN t0 b.2.1 b.2.2 0 w) (nV t0) with
      | false => rfl
      | true =>
        obtain ⟨j, -, hj⟩ := (anyB_iff _ _).mp hq
        unfold hdN at hj
        rw [show anyB (fun k => decide (b.2.1 k = w) && decide (b.2.2 k = j)) 0 = false from rfl, Bool.and_false] at hj
        cases hj)]
    rfl) (fun _ _ => rfl) rfl
  rw [show 4095 - b.1 + 1 + b.1 = 4096 by omega, nI_0] at this
  exact this
theorem x_load3 (ht : 20 ≤ t) (r : RDx z t0 t1) (d : DOK t0 t1) {b : Bk} (hB : BkX (rI z 13) (rI z 14) (rI z 15) b) (h0 : rI z t 3 = 0) : ∃ z', f_X4_load_lp3 t 13 4096 0 z = some z' ∧ QX t z' t1 (clN t1 b.2.1 b.2.2 b.1) b.1 ∧ (∀ u, u ≠ t → u ≠ t + 2 → rI z' u = rI z u) ∧ (∀ k, k ≠ 3 → rI z' t k = rI z t k) ∧ z'.2 = z.2 := by
  obtain ⟨y1, y2, y3⟩ := hB
  have key : ∀ (e i n : Nat) (z' : Sg), i + e = b.1 → QX t z' t1 (clN t1 b.2.1 b.2.2 i) i → (∀ u, u ≠ t → u ≠ t + 2 → rI z' u = rI z u) → (∀ k, k ≠ 3 → rI z' t k = rI z t k) → z'.2 = z.2 → ∃ z'', f_X4_load_lp3 t 13 (n + 1 + e) (nI i) z' = some z'' ∧ QX t z'' t1 (clN t1 b.2.1 b.2.2 b.1) b.1 ∧ (∀ u, u ≠ t → u ≠ t + 2 → rI z'' u = rI z u) ∧ (∀ k, k ≠ 3 → rI z'' t k = rI z t k) ∧ z''.2 = z.2 := by
    intro e
    induction e with
    | zero =>
      intro i n z' hi h1 h2 h3 h4
      obtain rfl : i = b.1 := by omega
      refine ⟨z', ?_, h1, h2, h3, h4⟩
      rw [show n + 1 + 0 = n + 1 from rfl, f_X4_load_lp3, h2 13 (by omega) (by omega), y1, if_neg Int32.lt_irrefl]
    | succ e ih =>
      intro i n z' hi h1 h2 h3 h4
      obtain ⟨g1, g2, g3, g4⟩ := y3 i (by omega)
      obtain ⟨z2, e2, i2, j2, k2, l2⟩ := x_come (z := z') ht (r.fr (fun u hu => h2 u (by omega) (by omega))) d (clN_ok (n := i) (by omega) (fun j hj => (y3 j (by omega)).2.2.1)) h1 (by omega) g3 g4 (show i < 52 by omega) (by unfold clN; rw [if_neg (fun q => by omega)])
      obtain ⟨z3, e3, i3⟩ := ih (i + 1) n z2 (by omega) (by rw [clN_s]; exact i2) (fun u h1' h2' => (j2 u h1' h2').trans (h2 u h1' h2')) (fun k hk => (k2 k hk).trans (h3 k hk)) (l2.trans h4)
      refine ⟨z3, ?_, i3⟩
      rw [show n + 1 + (e + 1) = (n + 1 + e) + 1 by omega, f_X4_load_lp3, h2 13 (by omega) (by omega), y1, if_pos (nI_lt (show i < b.1 by omega) (by omega)), ck_pos (ib_nI (show i < 12 by omega) (by decide)), ck_pos (ib_nI (show i < 12 by omega) (by decide)), ix_nI (by omega), show 13 + 1 = 14 from rfl, show 13 + 2 = 15 from rfl, h2 14 (by omega) (by omega), h2 15 (by omega) (by omega), g1, g2, e2, b1_some, nI_l1]
      exact e3
  have := key b.1 0 (4095 - b.1) z (by omega) ⟨0, fun _ => 0, Nat.le_refl _, h0, fun j hj => by omega, fun i j _ hj => by omega, fun x => ⟨fun ⟨j, hj, _⟩ => by omega, fun ⟨i, w, c, e, _⟩ => by
    unfold clN at e
    rw [if_neg (fun q => by omega)] at e
    cases e⟩⟩ (fun _ _ _ => rfl) (fun _ _ => rfl) rfl
  rw [show 4095 - b.1 + 1 + b.1 = 4096 by omega, nI_0] at this
  exact this
/-- what a run has taken in -/
def LX (t : Nat) (z : Sg) (t0 t1 : Tx) (e : Nat) (Hd : Nat → Nat → Bool) (Cl : Nat → Option (Nat × Nat)) (m : Nat) : Prop := (∀ w, w < 40 → rI z (t + 1) w = nI (bO (Hd w) (nV t0))) ∧ QX t z t1 Cl m ∧ ∀ c, c < nC t1 → rI z (t + 3) c = nI (bO (fit t0 t1 c) (nV t0)) ∧ rI z (t + 4) c = nI (bO (alw t0 t1 e c) (nV t0))
theorem x_load {a : Ab} (ht : 20 ≤ t) (h : AX0 z a) : ∃ z', f_X4_load t 10 13 z = some z' ∧ LX t z' (aT0 a) (aT1 a) (aE a) (hdN (aT0 a) (aH a).2.1 (aH a).2.2 (aH a).1) (clN (aT1 a) (aC a).2.1 (aC a).2.2 (aC a).1) (aC a).1 ∧ (∀ u, ¬ (t ≤ u ∧ u ≤ t + 4) → rI z' u = rI z u) ∧ (∀ k, k ≠ 3 → rI z' t k = rI z t k) ∧ z'.2 = z.2 := by
  have d := h.dok
  have r := h.rd
  obtain ⟨s1, -, -, s4, -⟩ := h.2.2.1
  obtain ⟨z1, e1, f1, g1, j1⟩ := J_fill (t + 1) 0 (n := 40) (by decide) z
  have F1 : ∀ u, u < 20 → rI (wI z1 t 3 0) u = rI z u := fun u hu => by rw [rIf_wI, if_neg (by omega)]; exact f1 u (by omega)
  have r1 : RDx (wI z1 t 3 0) (aT0 a) (aT1 a) := r.fr F1
  obtain ⟨z2, e2, g2, f2, j2⟩ := x_load1 (e := aE a) ht r1 d (by rw [F1 9 (by decide)]; exact s1) s4
  have F2 : ∀ u, u < 20 → rI z2 u = rI z u := fun u hu => (f2 u (by omega) (by omega)).trans (F1 u hu)
  obtain ⟨z3, e3, g3, f3, j3⟩ := x_load2 (z := z2) ht (r.fr F2) d (b := aH a) (by rw [F2 10 (by decide), F2 11 (by decide), F2 12 (by decide)]; exact h.2.2.2.1) (fun w hw => by rw [f2 _ (by omega) (by omega), rIf_wI, if_neg (by omega), g1, if_pos hw])
  have F3 : ∀ u, u < 20 → rI z3 u = rI z u := fun u hu => (f3 u (by omega)).trans (F2 u hu)
  obtain ⟨z4, e4, g4, f4, k4, j4⟩ := x_load3 (z := z3) ht (r.fr F3) d (b := aC a) (by rw [F3 13 (by decide), F3 14 (by decide), F3 15 (by decide)]; exact h.2.2.2.2.1) (by rw [f3 t (by omega), f2 t (by omega) (by omega), rI_wI, if_pos ⟨rfl, rfl⟩])
  refine ⟨z4, ?_, ⟨fun w hw => ?_, g4, fun c hc => ?_⟩, fun u hu => ?_, fun k hk => ?_, j4.trans (j3.trans (j2.trans j1))⟩
  · unfold f_X4_load
    rw [e1, b1_some, e2, b1_some, e3, b1_some, e4, b1_some]
  · rw [f4 _ (by omega) (by omega)]; exact g3 w hw
  · rw [f4 _ (by omega) (by omega), f3 _ (by omega), f4 _ (by omega) (by omega), f3 _ (by omega)]; exact g2 c hc
  · rw [f4 u (by omega) (by omega), f3 u (by omega), f2 u (by omega) (by omega), rIf_wI, if_neg (by omega), f1 u (by omega)]
  · rw [k4 k hk, f3 t (by omega), f2 t (by omega) (by omega), rI_wI, if_neg (fun g => hk g.2), f1 t (by omega)]
end Load
