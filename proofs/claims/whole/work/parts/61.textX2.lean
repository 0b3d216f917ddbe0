/-! TYPE, WIPE, UNDO, FAULT of the class. -/
theorem fw_lt_iff {vg : Bool} {β : Nat → Nat} {n : Nat} : ¬ fwB vg β n < n ↔ fwB vg β n = n := by have := fwB_le vg β n; omega
/-- what the reader does with a byte that it still takes -/
theorem takes_ok {z : Sg} {t b : Nat} {vg : Bool} {x : Tx} (h : TxX vg (rI z t) (rI z (t + 1)) (rI z (t + 2)) (rI z (t + 3)) x) (hn : x.1 < 47) (hb : b < 256) (hw : fwB vg x.2 x.1 = x.1) :
    ∃ z', f_X1_takes t (nI b) z = some (if okB vg x.1 b then 1 else 0, z') ∧ rI z' t = rI z t ∧ (∀ u, u ≠ t + 1 → u ≠ t + 2 → u ≠ t + 3 → rI z' u = rI z u) ∧ z'.2 = z.2 ∧
      ∀ j, j < 8 → ∃ a c, a < 16 ∧ c < 16 ∧ rI z' (t + 1) j = nI a ∧ rI z' (t + 2) j = nI c ∧ (∀ p, p < 4 → 6 * j + p < x.1 → (a / 2 ^ p % 2 = bitS (x.2 (6 * j + p)) 0) ∧ (c / 2 ^ p % 2 = bitH (x.2 (6 * j + p)) 0)) ∧ (6 * j + 4 < x.1 → rI z' (t + 3) j = nI (fgB x.2 j)) ∧
        (∀ p, p < 4 → 6 * j + p = x.1 → (a / 2 ^ p % 2 = bitS b 0) ∧ (c / 2 ^ p % 2 = bitH b 0)) ∧ (6 * j + 4 = x.1 → 48 ≤ b → rI z' (t + 3) j = nI (b - 48)) := by
  obtain ⟨g1, g2, g3, g4, g5, g6, g7⟩ := h
  rw [hw] at g7
  unfold f_X1_takes
  rw [g4, nI_div6 (by omega), nI_rem6 (by omega)]
  have n8 : ¬ (8 : Int32) ≤ nI (x.1 / 6) := nI_ge (b := 8) (by omega) (by decide)
  have e4 : (nI (x.1 % 6) < (4 : Int32)) ↔ x.1 % 6 < 4 := nI_ltI (b := 4) (by omega) (by decide)
  have e44 : (nI (x.1 % 6) = (4 : Int32)) ↔ x.1 % 6 = 4 := nI_eq (b := 4) (by omega) (by decide)
  have hj8 : x.1 / 6 < 8 := by omega
  simp only [n8, if_false, e4, e44]
  by_cases c4 : x.1 % 6 < 4
  · obtain ⟨a, c, ha, hc, hs, hh, hbits, hfig⟩ := g7 (x.1 / 6) hj8
    obtain ⟨z', e, r1, r2, r3, r4⟩ := takesLetter (p := x.1 % 6) ha hc hj8 c4 hb g3 hs hh
    refine ⟨z', ?_, r3 t (by omega) (by omega), fun u h1 h2 h3 => r3 u h1 h2, r4, fun j hj => ?_⟩
    · simp only [c4, if_true, e, b2_some]
      have eo : okB vg x.1 b = true ↔ (b = 108 ∨ b = 104 ∨ (b = 63 ∧ vg = true)) := by
        unfold okB; rw [if_pos c4]; simp [or_assoc]
      simp only [eo]
      by_cases q : b = 108 ∨ b = 104 ∨ (b = 63 ∧ vg = true)
      · simp only [q, if_true, ck_pos bz1]
      · simp only [q, if_false, ck_pos bz0]
    · rw [r3 (t + 3) (by omega) (by omega)]
      by_cases ej : j = x.1 / 6
      · subst ej
        refine ⟨sb a (x.1 % 6) (decide (b ≠ 63)), sb c (x.1 % 6) (decide (b = 104)), sb_lt' ⟨a, ha⟩ ⟨_, c4⟩ _, sb_lt' ⟨c, hc⟩ ⟨_, c4⟩ _, by rw [r1]; simp [upd], by rw [r2]; simp [upd], fun p hp hl => ?_, fun hl => hfig hl, fun p hp he => ?_, fun he => by omega⟩
        · have hne : p ≠ x.1 % 6 := by omega
          have s1 := sb_ne' ⟨a, ha⟩ ⟨_, c4⟩ ⟨p, hp⟩ (decide (b ≠ 63)) hne
          have s2 := sb_ne' ⟨c, hc⟩ ⟨_, c4⟩ ⟨p, hp⟩ (decide (b = 104)) hne
          rw [s1, s2]
          exact hbits p hp hl
        · have hpe : p = x.1 % 6 := by omega
          subst hpe
          have s1 := sb_at' ⟨a, ha⟩ ⟨_, c4⟩ (decide (b ≠ 63))
          have s2 := sb_at' ⟨c, hc⟩ ⟨_, c4⟩ (decide (b = 104))
          rw [s1, s2]
          unfold bitS bitH
          by_cases q1 : b = 63 <;> by_cases q2 : b = 104 <;> simp [q1, q2]
      · obtain ⟨a', c', ha', hc', hs', hh', hbits', hfig'⟩ := g7 j hj
        exact ⟨a', c', ha', hc', by rw [r1]; simp [upd, ej, hs'], by rw [r2]; simp [upd, ej, hh'], hbits', hfig', fun p hp he => by omega, fun he => by omega⟩
  · simp only [c4, if_false]
    by_cases c5 : x.1 % 6 = 4
    · simp only [c5, if_true]
      unfold f_X1_takesFigure
      have e1 : ((48 : Int32) ≤ nI b) ↔ 48 ≤ b := nI_leI (a := 48) (by decide) (by omega)
      have e2 : (nI b ≤ (57 : Int32)) ↔ b ≤ 57 := nI_leI (b := 57) (by omega) (by decide)
      rw [ck_pos (ib_nI hj8 (by decide)), ix_nI (by omega)]
      simp only [e1, e2]
      have eo : okB vg x.1 b = true ↔ (48 ≤ b ∧ b ≤ 57) := by
        unfold okB; rw [if_neg c4, if_pos c5]; simp
      refine ⟨wI z (t + 3) (x.1 / 6) (nI b - 48), ?_, by rw [rIf_wI, if_neg (by omega)], fun u h1 h2 h3 => by rw [rIf_wI, if_neg h3], rfl, fun j hj => ?_⟩
      · simp only [eo]
        by_cases q1 : 48 ≤ b
        · by_cases q2 : b ≤ 57
          · simp only [q1, q2, if_true, b1_some, ck_pos bz1, b2_some, and_self]
          · simp only [q1, q2, if_true, if_false, b1_some, ck_pos bz0, b2_some, and_false]
        · simp only [q1, if_false, b1_some, ck_pos bz0, b2_some, false_and]
      · obtain ⟨a', c', ha', hc', hs', hh', hbits', hfig'⟩ := g7 j hj
        refine ⟨a', c', ha', hc', by rw [rI_wI, if_neg (by omega)]; exact hs', by rw [rI_wI, if_neg (by omega)]; exact hh', hbits', fun hl => ?_, fun p hp he => by omega, fun he hb48 => ?_⟩
        · rw [rI_wI, if_neg (by omega)]; exact hfig' hl
        · rw [rI_wI, if_pos ⟨rfl, by omega⟩]
          exact pk_sub (b := 48) hb48
    · simp only [c5, if_false]
      have eo : okB vg x.1 b = true ↔ b = 59 := by
        unfold okB; rw [if_neg c4, if_neg c5]; simp
      have e1 : (nI b = (59 : Int32)) ↔ b = 59 := nI_eq (b := 59) (by omega) (by decide)
      refine ⟨z, ?_, rfl, fun _ _ _ _ => rfl, rfl, fun j hj => ?_⟩
      · simp only [eo, e1]
        by_cases q : b = 59
        · simp only [q, if_true, b1_some, b2_some, ck_pos bz1]
        · simp only [q, if_false, b1_some, b2_some, ck_pos bz0]
      · obtain ⟨a', c', ha', hc', hs', hh', hbits', hfig'⟩ := g7 j hj
        exact ⟨a', c', ha', hc', hs', hh', hbits', hfig', fun p hp he => by omega, fun he => by omega⟩
theorem fwB_fup {vg : Bool} {β : Nat → Nat} {n b : Nat} : fwB vg (fup β n b) (n + 1) = if fwB vg β n = n ∧ okB vg n b = true then n + 1 else fwB vg β n := by
  have e : fwB vg (fup β n b) n = fwB vg β n := fwB_congr vg n (fun i hi => by simp [fup, show i ≠ n by omega])
  show (if fwB vg (fup β n b) n = n ∧ okB vg n (fup β n b n) = true then n + 1 else fwB vg (fup β n b) n) = _
  rw [e]
  simp [fup]
theorem fgB_fup {β : Nat → Nat} {n b j : Nat} (h : 6 * j + 4 ≠ n) : fgB (fup β n b) j = fgB β j := by unfold fgB; rw [fup_a, if_neg h]
theorem X1_add {z : Sg} {t b : Nat} {vg : Bool} {x : Tx} (h : TxX vg (rI z t) (rI z (t + 1)) (rI z (t + 2)) (rI z (t + 3)) x) (hn : x.1 < 47) (hb : b < 256) :
    ∃ z', f_X1_add t (nI b) z = some z' ∧ TxX vg (rI z' t) (rI z' (t + 1)) (rI z' (t + 2)) (rI z' (t + 3)) (x.1 + 1, fup x.2 x.1 b) ∧ (∀ u, u ≠ t → u ≠ t + 1 → u ≠ t + 2 → u ≠ t + 3 → rI z' u = rI z u) ∧ z'.2 = z.2 := by
  have H := h
  obtain ⟨g1, g2, g3, g4, g5, g6, g7⟩ := h
  have hle := fwB_le vg x.2 x.1
  have hby : ∀ i, (fup x.2 x.1 b) i < 256 := fun i => by rw [fup_a]; split; exact hb; exact g2 i
  unfold f_X1_add
  rw [g5]
  by_cases c : fwB vg x.2 x.1 < x.1
  · have e1 : fwB vg (fup x.2 x.1 b) (x.1 + 1) = fwB vg x.2 x.1 := by rw [fwB_fup, if_neg (by omega)]
    simp only [c, if_true, nI_ne_m1 (show fwB vg x.2 x.1 < 2 ^ 31 by omega), if_false, b2_some, Bool.false_eq_true, b1_some, g4, nI_l1]
    have hc := x_countWhole (z := wI z t 4 (nI (x.1 + 1))) (t := t) (m := x.1 + 1) (w := fwB vg x.2 x.1) (by simp [rI_wI]) (by omega) (by omega) (by rw [rI_wI, if_neg (by omega), g5, if_pos c, if_pos (by omega)])
    rw [hc]
    refine ⟨_, rfl, ?_, fun u h0 h1 h2 h3 => by simp only [rIf_wI, h0, if_false], rfl⟩
    simp only [rIf_wI, show ¬ t + 1 = t by omega, show ¬ t + 2 = t by omega, show ¬ t + 3 = t by omega, if_true, if_false]
    refine ⟨by show x.1 + 1 ≤ 47; omega, hby, by simp [upd, g3], by simp [upd], ?_, by simp [upd, e1], fun j hj => ?_⟩
    · simp only [e1, upd]; simp [g5, c, show fwB vg x.2 x.1 < x.1 + 1 by omega]
    · obtain ⟨a, q, ha, hq, hs, hh, hbits, hfig⟩ := g7 j hj
      refine ⟨a, q, ha, hq, hs, hh, fun p hp hl => ?_, fun hl => ?_⟩
      · simp only [e1] at hl ⊢
        rw [fup_a, if_neg (by omega)]
        exact hbits p hp hl
      · simp only [e1] at hl
        rw [fgB_fup (by omega)]
        exact hfig hl
  · have hw : fwB vg x.2 x.1 = x.1 := by omega
    simp only [c, if_false, if_true]
    obtain ⟨z1, e, p1, p2, p3, p4⟩ := takes_ok H hn hb hw
    rw [e, b2_some]
    have e4 : rI z1 t 4 = nI x.1 := by rw [p1]; exact g4
    have e6 : rI z1 t 6 = -1 := by rw [p1, g5, if_neg c]
    cases ho : okB vg x.1 b with
    | true =>
      have e1 : fwB vg (fup x.2 x.1 b) (x.1 + 1) = x.1 + 1 := by rw [fwB_fup, if_pos ⟨hw, ho⟩]
      simp only [if_true, ne10, not_false_eq_true, b2_some, Bool.false_eq_true, if_false, b1_some, e4, nI_l1]
      have hc := x_countWhole (z := wI z1 t 4 (nI (x.1 + 1))) (t := t) (m := x.1 + 1) (w := x.1 + 1) (by simp [rI_wI]) (by omega) (by omega) (by rw [rI_wI, if_neg (by omega), e6, if_neg (by omega)])
      rw [hc]
      refine ⟨_, rfl, ?_, fun u h0 h1 h2 h3 => by simp only [rIf_wI, h0, if_false]; exact p2 u h1 h2 h3, p3⟩
      simp only [rIf_wI, show ¬ t + 1 = t by omega, show ¬ t + 2 = t by omega, show ¬ t + 3 = t by omega, if_true, if_false]
      refine ⟨by show x.1 + 1 ≤ 47; omega, hby, by simp [upd, p1, g3], by simp [upd], ?_, by simp [upd, e1], fun j hj => ?_⟩
      · simp only [e1, upd]; simp [e6]
      · obtain ⟨a, q, ha, hq, hs, hh, hbits, hfig, hnew, hnf⟩ := p4 j hj
        refine ⟨a, q, ha, hq, hs, hh, fun p hp hl => ?_, fun hl => ?_⟩
        · simp only [e1] at hl ⊢
          rw [fup_a]
          by_cases ep : 6 * j + p = x.1
          · rw [if_pos ep]; exact hnew p hp ep
          · rw [if_neg ep]; exact hbits p hp (by omega)
        · simp only [e1] at hl
          by_cases ep : 6 * j + 4 = x.1
          · have hok := okB_fig (vg := vg) (j := j) (b := b) (by rw [ep]; exact ho)
            rw [hnf ep hok.1]
            show nI (b - 48) = nI (fup x.2 x.1 b (6 * j + 4) - 48)
            rw [fup_a, if_pos ep]
          · rw [fgB_fup ep]; exact hfig (by omega)
    | false =>
      have e1 : fwB vg (fup x.2 x.1 b) (x.1 + 1) = x.1 := by rw [fwB_fup, if_neg (by simp [ho]), hw]
      simp only [Bool.false_eq_true, if_false, not_true, b2_some, if_true, b1_some, e4, rI_wI, ite_self, nI_l1]
      have hc := x_countWhole (z := wI (wI z1 t 6 (nI x.1)) t 4 (nI (x.1 + 1))) (t := t) (m := x.1 + 1) (w := x.1) (by simp [rI_wI]) (by omega) (by omega) (by rw [rI_wI, if_neg (by omega), rI_wI, if_pos ⟨rfl, rfl⟩, if_pos (by omega)])
      rw [hc]
      refine ⟨_, rfl, ?_, fun u h0 h1 h2 h3 => by simp only [rIf_wI, h0, if_false]; exact p2 u h1 h2 h3, p3⟩
      simp only [rIf_wI, show ¬ t + 1 = t by omega, show ¬ t + 2 = t by omega, show ¬ t + 3 = t by omega, if_true, if_false]
      refine ⟨by show x.1 + 1 ≤ 47; omega, hby, by simp [upd, p1, g3], by simp [upd], ?_, by simp [upd, e1], fun j hj => ?_⟩
      · simp only [e1, upd]; simp
      · obtain ⟨a, q, ha, hq, hs, hh, hbits, hfig, hnew, hnf⟩ := p4 j hj
        refine ⟨a, q, ha, hq, hs, hh, fun p hp hl => ?_, fun hl => ?_⟩
        · simp only [e1] at hl ⊢
          rw [fup_a, if_neg (by omega)]
          exact hbits p hp hl
        · simp only [e1] at hl
          rw [fgB_fup (by omega)]
          exact hfig hl
theorem X1_drop {z : Sg} {t : Nat} {vg : Bool} {x : Tx} (h : TxX vg (rI z t) (rI z (t + 1)) (rI z (t + 2)) (rI z (t + 3)) x) (hn : x.1 ≠ 0) :
    ∃ z', f_X1_dropLast t z = some z' ∧ TxX vg (rI z' t) (rI z' (t + 1)) (rI z' (t + 2)) (rI z' (t + 3)) (x.1 - 1, x.2) ∧ (∀ u, u ≠ t → rI z' u = rI z u) ∧ z'.2 = z.2 := by
  obtain ⟨g1, g2, g3, g4, g5, g6, g7⟩ := h
  obtain ⟨m, hm⟩ : ∃ m, x.1 = m + 1 := ⟨x.1 - 1, by omega⟩
  have hle := fwB_le vg x.2 m
  have hrec : fwB vg x.2 (m + 1) = if fwB vg x.2 m = m ∧ okB vg m (x.2 m) = true then m + 1 else fwB vg x.2 m := rfl
  rw [hm] at g1 g4 g5 g6 g7
  have hge : fwB vg x.2 m ≤ fwB vg x.2 (m + 1) := by rw [hrec]; split <;> omega
  unfold f_X1_dropLast
  simp only [rI_wI, show ¬ (t = t ∧ 6 = 4) by omega, and_self, if_true, if_false, g4, g5, nI_pred m, hm, Nat.add_sub_cancel, show ¬ ((6 : Nat) = 4) by decide, and_false]
  have key : ∀ z1 : Sg, rI z1 t = upd (upd (rI z t) 4 (nI m)) 6 (if fwB vg x.2 m < m then nI (fwB vg x.2 m) else -1) → (∀ u, u ≠ t → rI z1 u = rI z u) → z1.2 = z.2 → ∃ z', b1 (f_X1_countWhole t z1) (fun z5 => some z5) = some z' ∧ TxX vg (rI z' t) (rI z' (t + 1)) (rI z' (t + 2)) (rI z' (t + 3)) (m, x.2) ∧ (∀ u, u ≠ t → rI z' u = rI z u) ∧ z'.2 = z.2 := by
    intro z1 q1 q2 q3
    have hc := x_countWhole (z := z1) (t := t) (m := m) (w := fwB vg x.2 m) (by rw [q1]; simp [upd]) (by omega) hle (by rw [q1]; simp [upd])
    rw [hc]
    refine ⟨_, rfl, ?_, fun u hu => by rw [rIf_wI, if_neg hu]; exact q2 u hu, q3⟩
    simp only [rIf_wI, show ¬ t + 1 = t by omega, show ¬ t + 2 = t by omega, show ¬ t + 3 = t by omega, if_true, if_false, q1]
    refine ⟨by show m ≤ 47; omega, g2, by simp [upd, g3], by simp [upd], by simp [upd], by simp [upd], fun j hj => ?_⟩
    obtain ⟨a, q, ha, hq, hs, hh, hbits, hfig⟩ := g7 j hj
    exact ⟨a, q, ha, hq, by rw [q2 _ (by omega)]; exact hs, by rw [q2 _ (by omega)]; exact hh, fun p hp hl => hbits p hp (Nat.lt_of_lt_of_le hl hge), fun hl => by rw [q2 _ (by omega)]; exact hfig (Nat.lt_of_lt_of_le hl hge)⟩
  have hfr : ∀ (v : Int32) (u : Nat), u ≠ t → rI (wI z t 4 v) u = rI z u := fun v u hu => by rw [rIf_wI, if_neg hu]
  by_cases c1 : fwB vg x.2 m = m
  · by_cases c2 : okB vg m (x.2 m) = true
    · have e : fwB vg x.2 (m + 1) = m + 1 := by rw [hrec, if_pos ⟨c1, c2⟩]
      rw [e, if_neg (show ¬ m + 1 < m + 1 by omega), if_neg (fun q => nI_ne_m1 (show m < 2 ^ 31 by omega) q.symm), b1_some]
      refine key _ ?_ (hfr _) rfl
      rw [rIf_wI, if_pos rfl]
      funext k
      simp only [upd, c1, Nat.lt_irrefl, if_false]
      by_cases k6 : k = 6
      · subst k6; simp [g5, e]
      · simp [k6]
    · have e : fwB vg x.2 (m + 1) = m := by rw [hrec, if_neg (by simp [c2]), c1]
      rw [e, if_pos (show m < m + 1 by omega), if_pos rfl, b1_some]
      refine key _ ?_ (fun u hu => by rw [rIf_wI, if_neg hu]; exact hfr _ u hu) rfl
      simp only [rIf_wI, if_true, c1, Nat.lt_irrefl, if_false]
  · have e : fwB vg x.2 (m + 1) = fwB vg x.2 m := by rw [hrec, if_neg (fun q => c1 q.1)]
    rw [e, if_pos (show fwB vg x.2 m < m + 1 by omega), if_neg (fun q => c1 (nI_inj (by omega) (by omega) q)), b1_some]
    refine key _ ?_ (hfr _) rfl
    rw [rIf_wI, if_pos rfl]
    funext k
    simp only [upd, show fwB vg x.2 m < m by omega, if_true]
    by_cases k6 : k = 6
    · subst k6; simp [g5, e, show fwB vg x.2 m < m + 1 by omega]
    · simp [k6]
theorem TxX.zero {o s h g : Nat → Int32} {vg : Bool} {x : Tx} (H : TxX vg o s h g x) : TxX vg (upd (upd (upd o 4 0) 6 (-1)) 5 0) s h g (0, x.2) := by
  obtain ⟨g1, g2, g3, g4, g5, g6, g7⟩ := H
  refine ⟨by simp, g2, by simp [upd, g3], by simp [upd]; rfl, by simp [upd, fwB], by simp [upd, fwB, whN]; rfl, fun j hj => ?_⟩
  obtain ⟨a, q, ha, hq, hs, hh, hbits, hfig⟩ := g7 j hj
  exact ⟨a, q, ha, hq, hs, hh, fun p hp hl => by simp [fwB] at hl, fun hl => by simp [fwB] at hl⟩
section TextX
variable {PT : VT → KT → Prop} {PR : (Nat → Int64) → Tx → Tx → Prop}
def upT0 (a : Ab) (x : Tx) : Ab := (x, a.2)
def upT1 (a : Ab) (x : Tx) : Ab := (a.1, x, a.2.2)
/-- a change of a text: nothing that is kept stands -/
theorem AXg.t0 {z z' : Sg} {a : Ab} {x : Tx} (h : AXg PT PR z a) (hT : TxX false (rI z' 1) (rI z' 2) (rI z' 3) (rI z' 4) x) (hf : ∀ u, 5 ≤ u → rI z' u = rI z u) (h0 : rI z' 0 12 = rI z 0 12) (h10 : rI z' 0 10 = 0) (h11 : rI z' 0 11 = 0) : AXg PT PR z' (upT0 a x) :=
  ⟨h.1.mk' (Or.inr hT) (Or.inl ⟨fun u _ _ => hf u (by omega), rfl⟩) (Or.inl ⟨hf 9 (by omega), rfl⟩) (Or.inl ⟨fun u _ _ => hf u (by omega), rfl⟩) (Or.inl ⟨fun u _ _ => hf u (by omega), rfl⟩) (Or.inl ⟨fun u _ _ => hf u (by omega), rfl⟩) (Or.inl ⟨fun u _ _ => hf u (by omega), rfl⟩) (Or.inl ⟨h0, rfl⟩), Or.inl h10, Or.inl h11⟩
theorem AXg.t1 {z z' : Sg} {a : Ab} {x : Tx} (h : AXg PT PR z a) (hT : TxX true (rI z' 5) (rI z' 6) (rI z' 7) (rI z' 8) x) (hf : ∀ u, u ≠ 0 → ¬ (5 ≤ u ∧ u ≤ 8) → rI z' u = rI z u) (h0 : rI z' 0 12 = rI z 0 12) (h10 : rI z' 0 10 = 0) (h11 : rI z' 0 11 = 0) : AXg PT PR z' (upT1 a x) :=
  ⟨h.1.mk' (Or.inl ⟨fun u _ _ => hf u (by omega) (by omega), rfl⟩) (Or.inr hT) (Or.inl ⟨hf 9 (by omega) (by omega), rfl⟩) (Or.inl ⟨fun u _ _ => hf u (by omega) (by omega), rfl⟩) (Or.inl ⟨fun u _ _ => hf u (by omega) (by omega), rfl⟩) (Or.inl ⟨fun u _ _ => hf u (by omega) (by omega), rfl⟩) (Or.inl ⟨fun u _ _ => hf u (by omega) (by omega), rfl⟩) (Or.inl ⟨h0, rfl⟩), Or.inl h10, Or.inl h11⟩
/-- the text by its number -/
def aT (a : Ab) (k : Nat) : Tx := if k = 0 then a.1 else a.2.1
def upT (a : Ab) (k : Nat) (x : Tx) : Ab := if k = 0 then upT0 a x else upT1 a x
theorem AXg.text {z : Sg} {a : Ab} (h : AXg PT PR z a) {k : Nat} (hk : k < 2) : f_X7_textOf (nI k) z = some (1 + 4 * k) ∧ kd false (1 + 4 * k) = KX1 ∧ TxX (decide (k = 1)) (rI z (1 + 4 * k)) (rI z (1 + 4 * k + 1)) (rI z (1 + 4 * k + 2)) (rI z (1 + 4 * k + 3)) (aT a k) := by
  rcases (show k = 0 ∨ k = 1 by omega) with rfl | rfl
  · exact ⟨rfl, rfl, h.1.1⟩
  · exact ⟨rfl, rfl, h.1.2.1⟩
theorem AXg.upText {z z1 : Sg} {a : Ab} (h : AXg PT PR z a) {k : Nat} (hk : k < 2) {x : Tx} (hT : TxX (decide (k = 1)) (rI z1 (1 + 4 * k)) (rI z1 (1 + 4 * k + 1)) (rI z1 (1 + 4 * k + 2)) (rI z1 (1 + 4 * k + 3)) x) (hf : ∀ u, u ≠ 1 + 4 * k → u ≠ 1 + 4 * k + 1 → u ≠ 1 + 4 * k + 2 → u ≠ 1 + 4 * k + 3 → rI z1 u = rI z u) : AXg PT PR (wI (wI z1 0 10 0) 0 11 0) (upT a k x) := by
  have hc : ∀ u, u ≠ 0 → rI (wI (wI z1 0 10 0) 0 11 0) u = rI z1 u := fun u hu => by simp only [rIf_wI, hu, if_false]
  rcases (show k = 0 ∨ k = 1 by omega) with rfl | rfl
  · refine h.t0 ?_ (fun u hu => (hc u (by omega)).trans (hf u (by omega) (by omega) (by omega) (by omega))) ?_ (by simp [rI_wI]) (by simp [rI_wI])
    · rw [hc 1 (by omega), hc 2 (by omega), hc 3 (by omega), hc 4 (by omega)]; exact hT
    · have := hf 0 (by omega) (by omega) (by omega) (by omega)
      simp [rI_wI, this]
  · refine h.t1 ?_ (fun u h0 hu => (hc u h0).trans (hf u (by omega) (by omega) (by omega) (by omega))) ?_ (by simp [rI_wI]) (by simp [rI_wI])
    · rw [hc 5 (by omega), hc 6 (by omega), hc 7 (by omega), hc 8 (by omega)]; exact hT
    · have := hf 0 (by omega) (by omega) (by omega) (by omega)
      simp [rI_wI, this]
def sType (t b : Int32) (a : Ab) : Int32 × Ab := if bad t 2 ∨ bad b 256 then (-2, a) else if 47 ≤ (aT a (ix t)).1 then (-4, a) else (nI ((aT a (ix t)).1 + 1), upT a (ix t) ((aT a (ix t)).1 + 1, fup (aT a (ix t)).2 (aT a (ix t)).1 (ix b)))
theorem X_type {z : Sg} {a : Ab} (h : AXg PT PR z a) (t b : Int32) : ∃ z', f_X7_type t b z = some ((sType t b a).1, z') ∧ AXg PT PR z' (sType t b a).2 := by
  unfold f_X7_type
  rcases arg_cases t 2 (by decide) with ht | ⟨t, ht, rfl⟩
  · have e : f_X7_outside t 2 = some 1 := x_out_bad (n := 2) ht
    exact ⟨z, by simp [e, b1_some, sType, bad, ht], by simp only [sType, bad, ht, true_or, if_true]; exact h⟩
  have e1 : f_X7_outside (nI t) 2 = some 0 := x_out_nI (n := 2) ht (by decide)
  rcases arg_cases b 256 (by decide) with hb | ⟨b, hb, rfl⟩
  · have e : f_X7_outside b 256 = some 1 := x_out_bad (n := 256) hb
    exact ⟨z, by simp [e1, e, b1_some, sType, bad, hb], by simp only [sType, bad, hb, or_true, if_true]; exact h⟩
  have e2 : f_X7_outside (nI b) 256 = some 0 := x_out_nI (n := 256) hb (by decide)
  have n1 := not_bad ht (by decide)
  have n2 := not_bad hb (by decide)
  obtain ⟨k1, k2, k3⟩ := h.text ht
  simp only [e1, e2, b1_some, not_true, if_false, Bool.false_eq_true, k1, ck_pos k2, k3.2.2.2.1, sType, n1, n2, or_self, ix_nI (show t < 2 ^ 31 by omega), ix_nI (show b < 2 ^ 31 by omega)]
  have hle := k3.1
  have e47 : ((47 : Int32) ≤ nI (aT a t).1) ↔ 47 ≤ (aT a t).1 := nI_leI (a := 47) (by decide) (by omega)
  simp only [e47]
  by_cases hf : 47 ≤ (aT a t).1
  · simp only [hf, if_true]; exact ⟨z, rfl, h⟩
  · simp only [hf, if_false]
    obtain ⟨z1, e3, q1, q2, q3⟩ := X1_add k3 (by omega) hb
    rw [e3, b1_some]
    refine ⟨wI (wI z1 0 10 0) 0 11 0, ?_, h.upText ht q1 q2⟩
    unfold f_X7_textChanged
    simp only [b1_some, rI_wI, show ¬ (1 + 4 * t = 0 ∧ 4 = 11) by omega, show ¬ (1 + 4 * t = 0 ∧ 4 = 10) by omega, if_false, q1.2.2.2.1]
def sWipe (t : Int32) (a : Ab) : Int32 × Ab := if bad t 2 then (-2, a) else (nI (aT a (ix t)).1, upT a (ix t) (0, (aT a (ix t)).2))
theorem X_wipe {z : Sg} {a : Ab} (h : AXg PT PR z a) (t : Int32) : ∃ z', f_X7_wipe t z = some ((sWipe t a).1, z') ∧ AXg PT PR z' (sWipe t a).2 := by
  unfold f_X7_wipe
  rcases arg_cases t 2 (by decide) with ht | ⟨t, ht, rfl⟩
  · have e : f_X7_outside t 2 = some 1 := x_out_bad (n := 2) ht
    exact ⟨z, by simp [e, b1_some, sWipe, bad, ht], by simp only [sWipe, bad, ht, if_true]; exact h⟩
  have e1 : f_X7_outside (nI t) 2 = some 0 := x_out_nI (n := 2) ht (by decide)
  have n1 := not_bad ht (by decide)
  obtain ⟨k1, k2, k3⟩ := h.text ht
  simp only [e1, b1_some, not_true, if_false, k1, ck_pos k2, k3.2.2.2.1, sWipe, n1, ix_nI (show t < 2 ^ 31 by omega), f_X1_clear, f_X7_textChanged]
  refine ⟨_, rfl, h.upText ht (z1 := wI (wI (wI z (1 + 4 * t) 4 0) (1 + 4 * t) 6 (-1)) (1 + 4 * t) 5 0) ?_ (fun u h0 h1 h2 h3 => by simp only [rIf_wI, h0, if_false])⟩
  simp only [rIf_wI, show ¬ 1 + 4 * t + 1 = 1 + 4 * t by omega, show ¬ 1 + 4 * t + 2 = 1 + 4 * t by omega, show ¬ 1 + 4 * t + 3 = 1 + 4 * t by omega, if_true, if_false]
  exact k3.zero
def sUndo (t : Int32) (a : Ab) : Int32 × Ab := if bad t 2 then (-2, a) else if (aT a (ix t)).1 = 0 then (-3, a) else (nI ((aT a (ix t)).1 - 1), upT a (ix t) ((aT a (ix t)).1 - 1, (aT a (ix t)).2))
theorem X_undo {z : Sg} {a : Ab} (h : AXg PT PR z a) (t : Int32) : ∃ z', f_X7_undo t z = some ((sUndo t a).1, z') ∧ AXg PT PR z' (sUndo t a).2 := by
  unfold f_X7_undo
  rcases arg_cases t 2 (by decide) with ht | ⟨t, ht, rfl⟩
  · have e : f_X7_outside t 2 = some 1 := x_out_bad (n := 2) ht
    exact ⟨z, by simp [e, b1_some, sUndo, bad, ht], by simp only [sUndo, bad, ht, if_true]; exact h⟩
  have e1 : f_X7_outside (nI t) 2 = some 0 := x_out_nI (n := 2) ht (by decide)
  have n1 := not_bad ht (by decide)
  obtain ⟨k1, k2, k3⟩ := h.text ht
  have hle := k3.1
  simp only [e1, b1_some, not_true, if_false, k1, ck_pos k2, k3.2.2.2.1, sUndo, n1, ix_nI (show t < 2 ^ 31 by omega), nI_z (show (aT a t).1 < 2 ^ 31 by omega)]
  by_cases hf : (aT a t).1 = 0
  · simp only [hf, if_true]; exact ⟨z, rfl, h⟩
  · simp only [hf, if_false]
    obtain ⟨z1, e3, q1, q2, q3⟩ := X1_drop k3 hf
    rw [e3, b1_some]
    refine ⟨wI (wI z1 0 10 0) 0 11 0, ?_, h.upText ht q1 (fun u h0 _ _ _ => q2 u h0)⟩
    unfold f_X7_textChanged
    simp only [b1_some, rI_wI, show ¬ (1 + 4 * t = 0 ∧ 4 = 11) by omega, show ¬ (1 + 4 * t = 0 ∧ 4 = 10) by omega, if_false, q1.2.2.2.1]
def sFault (t : Int32) (a : Ab) : Int32 := if bad t 2 then -2 else flI (aT a (ix t)).1 (fwB (decide (ix t = 1)) (aT a (ix t)).2 (aT a (ix t)).1)
theorem X_fault {z : Sg} {a : Ab} (h : AXg PT PR z a) (t : Int32) : f_X7_fault t z = some (sFault t a) := by
  unfold f_X7_fault
  rcases arg_cases t 2 (by decide) with ht | ⟨t, ht, rfl⟩
  · have e : f_X7_outside t 2 = some 1 := x_out_bad (n := 2) ht
    simp [e, b1_some, sFault, bad, ht]
  have e1 : f_X7_outside (nI t) 2 = some 0 := x_out_nI (n := 2) ht (by decide)
  have n1 := not_bad ht (by decide)
  obtain ⟨k1, k2, k3⟩ := h.text ht
  simp only [e1, b1_some, not_true, if_false, k1, ck_pos k2, sFault, n1, ix_nI (show t < 2 ^ 31 by omega)]
  rw [x_faultPlace k3.2.2.2.1 k3.1 (fwB_le _ _ _) k3.2.2.2.2.1]
  rfl
end TextX
