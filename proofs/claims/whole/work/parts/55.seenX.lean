/-! SEEN, FORGET, READ of the class. -/
def snAdd (i j k : Int32) (b : Sn) : Int32 × Sn := if bad i 40 ∨ bad j 8 ∨ bad k 2 then (-2, b) else if 8 ≤ b.1 then (-4, b) else (nI (b.1 + 1), (b.1 + 1, fup b.2.1 b.1 (ix i), fup b.2.2.1 b.1 (ix j), fup b.2.2.2 b.1 (ix k)))
theorem SnX.add {o w v s : Nat → Int32} {b : Sn} {i j k : Nat} (h : SnX o w v s b) (hn : b.1 < 8) (hi : i < 40) (hj : j < 8) (hk : k < 2) : SnX (upd o 3 (nI (b.1 + 1))) (upd w b.1 (nI i)) (upd v b.1 (nI j)) (upd s b.1 (nI k)) (b.1 + 1, fup b.2.1 b.1 i, fup b.2.2.1 b.1 j, fup b.2.2.2 b.1 k) := by
  obtain ⟨h1, h2, h3⟩ := h
  refine ⟨by simp [upd], by show b.1 + 1 ≤ 8; omega, fun q hq => ?_⟩
  have hq : q < b.1 + 1 := hq
  by_cases e : q = b.1
  · subst e; simp [upd, fup, hi, hj, hk]
  · simp only [upd, fup, e, if_false]
    exact h3 q (by omega)
theorem X6_add {z : Sg} {b : Sn} (h : SnX (rI z 16) (rI z 17) (rI z 18) (rI z 19) b) (i j k : Int32) : ∃ z', f_X6_add i j k z = some ((snAdd i j k b).1, z') ∧ SnX (rI z' 16) (rI z' 17) (rI z' 18) (rI z' 19) (snAdd i j k b).2 ∧ (∀ u, ¬ (16 ≤ u ∧ u ≤ 19) → rI z' u = rI z u) ∧ z'.2 = z.2 := by
  unfold f_X6_add
  rcases arg_cases i 40 (by decide) with hi | ⟨i, hi, rfl⟩
  · have e : f_X7_outside i 40 = some 1 := x_out_bad (n := 40) hi
    exact ⟨z, by simp [e, b1_some, snAdd, bad, hi], by simp only [snAdd, bad, hi, true_or, if_true]; exact h, fun _ _ => rfl, rfl⟩
  have e1 : f_X7_outside (nI i) 40 = some 0 := x_out_nI (n := 40) hi (by decide)
  have n1 := not_bad hi (by decide)
  rcases arg_cases j 8 (by decide) with hj | ⟨j, hj, rfl⟩
  · have e : f_X7_outside j 8 = some 1 := x_out_bad (n := 8) hj
    exact ⟨z, by simp [e1, e, b1_some, snAdd, bad, hj], by simp only [snAdd, bad, hj, true_or, or_true, if_true]; exact h, fun _ _ => rfl, rfl⟩
  have e2 : f_X7_outside (nI j) 8 = some 0 := x_out_nI (n := 8) hj (by decide)
  have n2 := not_bad hj (by decide)
  rcases arg_cases k 2 (by decide) with hk | ⟨k, hk, rfl⟩
  · have e : f_X7_outside k 2 = some 1 := x_out_bad (n := 2) hk
    exact ⟨z, by simp [e1, e2, e, b1_some, snAdd, bad, hk], by simp only [snAdd, bad, hk, or_true, if_true]; exact h, fun _ _ => rfl, rfl⟩
  have e3 : f_X7_outside (nI k) 2 = some 0 := x_out_nI (n := 2) hk (by decide)
  have n3 := not_bad hk (by decide)
  obtain ⟨h1, h2, h3⟩ := id h
  simp only [e1, e2, e3, b1_some, not_true, if_false, Bool.false_eq_true, rI_wI, h1, show ¬ (16 = 17 ∧ 3 = ix (nI b.1)) by omega, show ¬ (16 = 18 ∧ 3 = ix (nI b.1)) by omega, show ¬ (16 = 19 ∧ 3 = ix (nI b.1)) by omega]
  by_cases hf : 8 ≤ b.1
  · have e : b.1 = 8 := by omega
    refine ⟨z, ?_, ?_, fun _ _ => rfl, rfl⟩
    · rw [if_pos (show (8 : Int32) ≤ nI b.1 by rw [e]; exact Int32.le_refl _)]
      simp only [snAdd, n1, n2, n3, or_self, if_false, hf, if_true]
    · simp only [snAdd, n1, n2, n3, or_self, if_false, hf, if_true]; exact h
  · have hl : b.1 < 8 := by omega
    rw [if_neg (show ¬ (8 : Int32) ≤ nI b.1 from nI_ge hl (by decide))]
    simp only [ck_pos (ib_nI hl (by decide : 8 < 2 ^ 31)), nI_l1, ix_nI (show b.1 < 2 ^ 31 by omega), and_self, if_true]
    refine ⟨wI (wI (wI (wI z 17 b.1 (nI i)) 18 b.1 (nI j)) 19 b.1 (nI k)) 16 3 (nI (b.1 + 1)), by simp only [snAdd, n1, n2, n3, or_self, if_false, hf], ?_, fun u hu => ?_, rfl⟩
    · simp only [snAdd, n1, n2, n3, or_self, if_false, hf, ix_nI (show i < 2 ^ 31 by omega), ix_nI (show j < 2 ^ 31 by omega), ix_nI (show k < 2 ^ 31 by omega)]
      have := h.add hl hi hj hk
      simp only [rIf_wI, show ¬ (16 = 19) by decide, show ¬ (16 = 18) by decide, show ¬ (16 = 17) by decide, show ¬ (17 = 16) by decide, show ¬ (17 = 18) by decide, show ¬ (17 = 19) by decide, show ¬ (18 = 16) by decide, show ¬ (18 = 17) by decide, show ¬ (18 = 19) by decide, show ¬ (19 = 16) by decide, show ¬ (19 = 17) by decide, show ¬ (19 = 18) by decide, if_true, if_false]
      exact this
    · simp only [rIf_wI, show ¬ u = 16 by omega, show ¬ u = 17 by omega, show ¬ u = 18 by omega, show ¬ u = 19 by omega, if_false]
section SeenX
variable {PT : VT → KT → Prop} {PR : (Nat → Int64) → Tx → Tx → Prop}
theorem AXg.sn {z z' : Sg} {a : Ab} {b : Sn} (h : AXg PT PR z a) (hS : SnX (rI z' 16) (rI z' 17) (rI z' 18) (rI z' 19) b) (hf : ∀ u, ¬ (16 ≤ u ∧ u ≤ 19) → rI z' u = rI z u) (hj : z'.2 = z.2) : AXg PT PR z' (upW a b) :=
  h.keep (h.1.mk' (Or.inl ⟨fun u _ _ => hf u (by omega), rfl⟩) (Or.inl ⟨fun u _ _ => hf u (by omega), rfl⟩) (Or.inl ⟨hf 9 (by omega), rfl⟩) (Or.inl ⟨fun u _ _ => hf u (by omega), rfl⟩) (Or.inl ⟨fun u _ _ => hf u (by omega), rfl⟩) (Or.inr hS) (Or.inl ⟨fun u _ _ => hf u (by omega), rfl⟩) (Or.inl ⟨by rw [hf 0 (by omega)], rfl⟩)) (by rw [hf 0 (by omega)]) (by rw [hf 0 (by omega)]) (vT_of (fun u _ _ => hf u (by omega)) hj) (rJ_of hj 42) rfl
def sSeen (i j k : Int32) (a : Ab) : Int32 × Ab := ((snAdd i j k (aW a)).1, upW a (snAdd i j k (aW a)).2)
theorem X_seen {z : Sg} {a : Ab} (h : AXg PT PR z a) (i j k : Int32) : ∃ z', f_X7_seen i j k z = some ((sSeen i j k a).1, z') ∧ AXg PT PR z' (sSeen i j k a).2 := by
  obtain ⟨z', e, hB, hf, hj⟩ := X6_add h.1.2.2.2.2.2.1 i j k
  exact ⟨z', by unfold f_X7_seen; rw [e]; rfl, h.sn hB hf hj⟩
def sForget (a : Ab) : Int32 × Ab := (nI (aW a).1, upW a (0, (aW a).2))
theorem X_forget {z : Sg} {a : Ab} (h : AXg PT PR z a) : ∃ z', f_X7_forget z = some ((sForget a).1, z') ∧ AXg PT PR z' (sForget a).2 := by
  unfold f_X7_forget
  have hS := h.1.2.2.2.2.2.1
  refine ⟨_, by rw [hS.1]; rfl, ?_⟩
  refine h.sn ?_ (fun u hu => by rw [rIf_wI, if_neg (by omega)]) rfl
  simp only [rIf_wI, if_true, show ¬ (17 = 16) by decide, show ¬ (18 = 16) by decide, show ¬ (19 = 16) by decide, if_false]
  exact ⟨by simp [upd]; rfl, by simp, fun i hi => absurd hi (by simp)⟩
/-- claims read from a sheet's items -/
def rdS (it : Nat → Int32) (m : Nat) : Nat → Nat → Ab → Int32 × Ab
  | 0, n, a => (nI n, a)
  | k + 1, n, a => if 2 * n + 1 < m then (if (sClaim (it (2 * n)) (it (2 * n + 1)) a).1 < 0 then (nI n, (sClaim (it (2 * n)) (it (2 * n + 1)) a).2) else rdS it m k (n + 1) (sClaim (it (2 * n)) (it (2 * n + 1)) a).2) else (nI n, a)
theorem X_read_lp {s m : Nat} {it : Nat → Int32} (hs : s < 4) (hm : m ≤ 48) : ∀ (k n : Nat) (z : Sg) (a : Ab), AXg PT PR z a → n + k = 25 → rI z (45 + 2 * s) 1 = nI m → (∀ i, i < 48 → rI z (46 + 2 * s) i = it i) → ∃ z', f_X7_read_lp1 (45 + 2 * s) (k + 1000) (nI n) (nI (2 * n)) z = some ((rdS it m k n a).1, z') ∧ AXg PT PR z' (rdS it m k n a).2
  | 0, n, z, a, h, hn, h1, h2 => by
    refine ⟨z, ?_, h⟩
    rw [show 0 + 1000 = 999 + 1 from rfl, f_X7_read_lp1, h1, nI_l1, if_neg (nI_nlt (by omega) (by omega))]
    rfl
  | k + 1, n, z, a, h, hn, h1, h2 => by
    rw [show k + 1 + 1000 = (k + 1000) + 1 by omega, f_X7_read_lp1, h1, nI_l1]
    by_cases hc : 2 * n + 1 < m
    · rw [if_pos (nI_lt hc (by omega)), ck_pos (ib_nI (show 2 * n < 48 by omega) (by decide)), ck_pos (ib_nI (show 2 * n + 1 < 48 by omega) (by decide)), ix_nI (by omega), ix_nI (by omega), show 45 + 2 * s + 1 = 46 + 2 * s by omega, h2 _ (by omega), h2 _ (by omega)]
      obtain ⟨z1, e, g, hfr⟩ := X_claim h (it (2 * n)) (it (2 * n + 1))
      rw [e, b2_some]
      unfold rdS
      rw [if_pos hc]
      by_cases hr : (sClaim (it (2 * n)) (it (2 * n + 1)) a).1 < 0
      · rw [if_pos hr, if_pos hr]
        exact ⟨z1, rfl, g⟩
      · rw [if_neg hr, if_neg hr, nI_l1, show nI (2 * n) + (2 : Int32) = nI (2 * (n + 1)) from nI_add (2 * n) 2]
        exact X_read_lp hs hm k (n + 1) z1 _ g (by omega) (by rw [hfr _ (by omega)]; exact h1) (fun i hi => by rw [hfr _ (by omega)]; exact h2 i hi)
    · rw [if_neg (fun q => hc ((nI_ltI (by omega) (by omega)).mp q))]
      unfold rdS
      rw [if_neg hc]
      exact ⟨z, rfl, h⟩
def sRead (s : Int32) (a : Ab) : Int32 × Ab := if bad s 4 then (-2, a) else if (aSh a).1 (ix s) then rdS ((aSh a).2.2.2 (ix s)) ((aSh a).2.2.1 (ix s)) 25 0 a else fnd 1 a
theorem X_read {z : Sg} {a : Ab} (h : AXg PT PR z a) (s : Int32) : ∃ z', f_X7_read s z = some ((sRead s a).1, z') ∧ AXg PT PR z' (sRead s a).2 := by
  unfold f_X7_read
  rcases arg_cases s 4 (by decide) with hs | ⟨s, hs, rfl⟩
  · have e : f_X7_outside s 4 = some 1 := x_out_bad (n := 4) hs
    exact ⟨z, by simp [e, b1_some, sRead, bad, hs], by simp only [sRead, bad, hs, if_true]; exact h⟩
  · have e : f_X7_outside (nI s) 4 = some 0 := x_out_nI (n := 4) hs (by decide)
    have ns := not_bad hs (by decide)
    have H := h.1.2.2.2.2.2.2.1
    obtain ⟨k1, k2, k3, k4, k5⟩ := H s hs
    simp only [e, b1_some, not_true, if_false, ck_pos (ib_nI hs (by decide : 4 < 2 ^ 31)), ix_nI (show s < 2 ^ 31 by omega), ck_pos (kdS hs), x_isLost H hs]
    simp only [sRead, ns, if_false, ix_nI (show s < 2 ^ 31 by omega)]
    cases ht : (aSh a).1 s with
    | true =>
      rw [ht] at k1
      simp only [if_true, not_true, if_false]
      obtain ⟨z', e1, g⟩ := X_read_lp (it := (aSh a).2.2.2 s) hs k4 25 0 z a h rfl k1 k5
      have e2 : f_X7_read_lp1 (45 + 2 * s) 4096 0 0 z = some ((rdS ((aSh a).2.2.2 s) ((aSh a).2.2.1 s) 25 0 a).1, z') := by
        have mono : ∀ (d n : Nat) (x y : Int32) (z : Sg) (r : Int32 × Sg), f_X7_read_lp1 (45 + 2 * s) n x y z = some r → f_X7_read_lp1 (45 + 2 * s) (n + d) x y z = some r := by
          intro d n
          induction n with
          | zero => intro x y z r q; cases q
          | succ n ih =>
            intro x y z r q
            rw [show n + 1 + d = (n + d) + 1 by omega, f_X7_read_lp1]
            rw [f_X7_read_lp1] at q
            by_cases c : y + 1 < rI z (45 + 2 * s) 1
            · rw [if_pos c] at q ⊢
              obtain ⟨c1, q⟩ := ck_of q
              obtain ⟨c2, q⟩ := ck_of q
              obtain ⟨r1, z1, q1, q⟩ := b2_of q
              rw [ck_pos c1, ck_pos c2, q1, b2_some]
              by_cases c3 : r1 < 0
              · rw [if_pos c3] at q ⊢; exact q
              · rw [if_neg c3] at q ⊢; exact ih _ _ _ _ q
            · rw [if_neg c] at q ⊢; exact q
        exact mono 3071 1025 0 0 z _ e1
      rw [e2]
      exact ⟨z', rfl, g⟩
    | false =>
      simp only [Bool.false_eq_true, if_false, show ¬ ((1 : Int32) = 0) by decide, not_false_eq_true, if_true]
      exact ⟨_, rfl, h.fnd (by decide)⟩
end SeenX
