/-! SHEETS of the class. -/
theorem fo_wI {a n : Nat} {v : Int32} (z : Sg) : ∀ k, k ≤ n → (∀ u, u ≠ a → rI (fo (fun i z => wI z a i v) k 0 z) u = rI z u) ∧ (∀ q, rI (fo (fun i z => wI z a i v) k 0 z) a q = if q < k then v else rI z a q) ∧ (fo (fun i z => wI z a i v) k 0 z).2 = z.2
  | 0, _ => ⟨fun _ _ => rfl, fun _ => rfl, rfl⟩
  | k + 1, h => by
    obtain ⟨h1, h2, h3⟩ := fo_wI (a := a) (n := n) (v := v) z k (by omega)
    rw [fo_succ]
    refine ⟨fun u hu => ?_, fun q => ?_, h3⟩
    · rw [rIf_wI, if_neg hu, h1 u hu]
    · rw [rI_wI, h2, Nat.zero_add]
      by_cases e : q = k
      · subst e; simp
      · by_cases e2 : q < k
        · simp [e, e2, show q < k + 1 by omega]
        · simp [e, e2, show ¬ q < k + 1 by omega]
theorem J_fill (a : Nat) (v : Int32) {n : Nat} (hn : n < 4096) (z : Sg) : ∃ z', f_J7_fill_53178 a v n z = some z' ∧ (∀ u, u ≠ a → rI z' u = rI z u) ∧ (∀ q, rI z' a q = if q < n then v else rI z a q) ∧ z'.2 = z.2 := by
  have key := lp_fo (fun m i z => f_J7_fill_53178_lp1 a v (Int32.ofNat n) n m i z) n (fun i z => wI z a i v) (fun z => z) (fun _ _ => True) (fun m z _ => by
    show f_J7_fill_53178_lp1 a v (nI n) n (m + 1) (nI n) z = some z
    rw [f_J7_fill_53178_lp1, if_neg (by exact Int32.lt_irrefl)]) (fun m i z hi _ => ⟨by
    show f_J7_fill_53178_lp1 a v (nI n) n (m + 1) (nI i) z = f_J7_fill_53178_lp1 a v (nI n) n m (nI (i + 1)) (wI z a i v)
    rw [f_J7_fill_53178_lp1, if_pos (nI_lt hi (by omega)), ck_pos (ib_nI hi (by omega)), nI_l1, ix_nI (by omega)], trivial⟩) n 0 4096 z (by omega) hn trivial
  obtain ⟨h1, h2, h3⟩ := fo_wI (a := a) (n := n) (v := v) z n (Nat.le_refl n)
  refine ⟨fo (fun i z => wI z a i v) n 0 z, ?_, h1, h2, h3⟩
  unfold f_J7_fill_53178
  have := key.1
  rw [nI_0] at this
  rw [this]
  rfl
theorem kdS {k : Nat} (h : k < 4) : kd false (45 + 2 * k) = KX5 := by
  rcases (show k = 0 ∨ k = 1 ∨ k = 2 ∨ k = 3 by omega) with rfl | rfl | rfl | rfl <;> rfl
abbrev bad (i : Int32) (n : Nat) : Prop := i < 0 ∨ nI n ≤ i
theorem not_bad {i n : Nat} (h : i < n) (hn : n < 2 ^ 31) : ¬ bad (nI i) n := by rintro (q | q); exact nI_pos (by omega) q; exact nI_ge h hn q
def fnd (n : Nat) (a : Ab) : Int32 × Ab := (-10 - nI n, upF a n)
def narI (f : Nat) (v : Int32) : Int32 := if f = 0 then v.toInt8.toInt32 else if f = 1 then v.toInt16.toInt32 else v
def shNew (h : Shs) (s f n : Nat) : Shs := (fun q => if q = s then true else h.1 q, fup h.2.1 s f, fup h.2.2.1 s n, fun q i => if q = s then 0 else h.2.2.2 q i)
def shLose (h : Shs) (s : Nat) : Shs := (fun q => if q = s then false else h.1 q, h.2.1, h.2.2.1, h.2.2.2)
def shPut (h : Shs) (s i : Nat) (v : Int32) : Shs := (h.1, h.2.1, h.2.2.1, fun q k => if q = s ∧ k = i then narI (h.2.1 s) v else h.2.2.2 q k)
def shCopy (h : Shs) (s i t j n : Nat) : Shs := (h.1, h.2.1, h.2.2.1, fun q k => if q = t ∧ j ≤ k ∧ k < j + n then h.2.2.2 s (i + (k - j)) else h.2.2.2 q k)
theorem x_isLost {z : Sg} {h : Shs} (H : ShX z h) {s : Nat} (hs : s < 4) : f_X5_isLost (45 + 2 * s) z = some (if h.1 s then 0 else 1) := by
  obtain ⟨k1, k2, k3, k4, k5⟩ := H s hs
  unfold f_X5_isLost
  rw [k1]
  cases h.1 s with
  | true => simp [nI_ne_m1 (show h.2.2.1 s < 2 ^ 31 by omega), b1_some, ck, bz]
  | false => simp [b1_some, ck, bz]
section SheetX
variable {PT : VT → KT → Prop} {PR : (Nat → Int64) → Tx → Tx → Prop}
/-- a change of sheets alone -/
theorem AXg.sh {z z' : Sg} {a : Ab} {h' : Shs} (h : AXg PT PR z a) (hS : ShX z' h') (hf : ∀ u, u < 45 → rI z' u = rI z u) (hj : z'.2 = z.2) : AXg PT PR z' (upSh a h') :=
  h.keep (h.1.mk' (Or.inl ⟨fun u _ _ => hf u (by omega), rfl⟩) (Or.inl ⟨fun u _ _ => hf u (by omega), rfl⟩) (Or.inl ⟨hf 9 (by omega), rfl⟩) (Or.inl ⟨fun u _ _ => hf u (by omega), rfl⟩) (Or.inl ⟨fun u _ _ => hf u (by omega), rfl⟩) (Or.inl ⟨fun u _ _ => hf u (by omega), rfl⟩) (Or.inr hS) (Or.inl ⟨by rw [hf 0 (by omega)], rfl⟩)) (by rw [hf 0 (by omega)]) (by rw [hf 0 (by omega)]) (vT_of (fun u _ _ => hf u (by omega)) hj) (rJ_of hj 42) rfl
theorem AXg.fnd {z : Sg} {a : Ab} (h : AXg PT PR z a) {n : Nat} (hn : n ≤ 5) : AXg PT PR (wI z 0 12 (nI n)) (upF a n) := by
  have hf : ∀ u, u ≠ 0 → rI (wI z 0 12 (nI n)) u = rI z u := fun u hu => by rw [rIf_wI, if_neg hu]
  exact h.keep (h.1.mk' (Or.inl ⟨fun u _ _ => hf u (by omega), rfl⟩) (Or.inl ⟨fun u _ _ => hf u (by omega), rfl⟩) (Or.inl ⟨hf 9 (by omega), rfl⟩) (Or.inl ⟨fun u _ _ => hf u (by omega), rfl⟩) (Or.inl ⟨fun u _ _ => hf u (by omega), rfl⟩) (Or.inl ⟨fun u _ _ => hf u (by omega), rfl⟩) (Or.inl ⟨fun u _ _ => hf u (by omega), rfl⟩) (Or.inr ⟨by simp [rI_wI, upF], hn⟩)) (by simp [rI_wI]) (by simp [rI_wI]) (vT_of (fun u _ _ => hf u (by omega)) rfl) rfl rfl
theorem x_found (n : Nat) (z : Sg) : f_X7_found (nI n) z = some (-10 - nI n, wI z 0 12 (nI n)) := rfl

def sSheet (s f n : Int32) (a : Ab) : Int32 × Ab := if bad s 4 ∨ bad f 3 ∨ nI 48 < n then (-2, a) else if n < 0 then fnd 5 a else (n, upSh a (shNew (aSh a) (ix s) (ix f) (ix n)))
theorem ShX.set {z z' : Sg} {h h' : Shs} {s : Nat} (H : ShX z h) (hs : s < 4) (ho : ∀ q, q ≠ s → h'.1 q = h.1 q ∧ h'.2.1 q = h.2.1 q ∧ h'.2.2.1 q = h.2.2.1 q ∧ ∀ i, h'.2.2.2 q i = h.2.2.2 q i) (hf : ∀ u, u ≠ 45 + 2 * s → u ≠ 46 + 2 * s → rI z' u = rI z u)
    (hq : rI z' (45 + 2 * s) 1 = (if h'.1 s then nI (h'.2.2.1 s) else -1) ∧ rI z' (45 + 2 * s) 2 = nI (h'.2.1 s) ∧ h'.2.1 s < 3 ∧ h'.2.2.1 s ≤ 48 ∧ ∀ i, i < 48 → rI z' (46 + 2 * s) i = h'.2.2.2 s i) : ShX z' h' := by
  intro q hq4
  by_cases e : q = s
  · subst e; exact hq
  · obtain ⟨o1, o2, o3, o4⟩ := ho q e
    obtain ⟨k1, k2, k3, k4, k5⟩ := H q hq4
    rw [hf (45 + 2 * q) (by omega) (by omega), hf (46 + 2 * q) (by omega) (by omega), o1, o2, o3]
    exact ⟨k1, k2, k3, k4, fun i hi => by rw [o4]; exact k5 i hi⟩
theorem X_sheet {z : Sg} {a : Ab} (h : AXg PT PR z a) (s f n : Int32) : ∃ z', f_X7_sheet s f n z = some ((sSheet s f n a).1, z') ∧ AXg PT PR z' (sSheet s f n a).2 := by
  unfold f_X7_sheet
  have e2 : (-2 : Int32) = -2 := rfl
  rcases arg_cases s 4 (by decide) with hs | ⟨s, hs, rfl⟩
  · have e : f_X7_outside s 4 = some 1 := x_out_bad (n := 4) hs
    exact ⟨z, by simp [e, b1_some, sSheet, bad, hs], by simp only [sSheet, bad, hs, true_or, if_true]; exact h⟩
  · have e : f_X7_outside (nI s) 4 = some 0 := x_out_nI (n := 4) hs (by decide)
    have ns := not_bad hs (by decide)
    rcases arg_cases f 3 (by decide) with hf | ⟨f, hf, rfl⟩
    · have e3 : f_X7_outside f 3 = some 1 := x_out_bad (n := 3) hf
      exact ⟨z, by simp [e, e3, b1_some, sSheet, bad, hf], by simp only [sSheet, bad, hf, true_or, or_true, if_true]; exact h⟩
    · have e3 : f_X7_outside (nI f) 3 = some 0 := x_out_nI (n := 3) hf (by decide)
      have nf := not_bad hf (by decide)
      simp only [e, e3, b1_some, not_true, if_false]
      by_cases hn : (48 : Int32) < n
      · exact ⟨z, by simp only [hn, if_true, b1_some, sSheet, show nI 48 < n from hn, or_true], by simp only [sSheet, show nI 48 < n from hn, or_true, if_true]; exact h⟩
      · have hn' : ¬ nI 48 < n := hn
        simp only [hn, if_false, b1_some, Bool.false_eq_true]
        by_cases h0 : n < 0
        · refine ⟨wI z 0 12 (nI 5), ?_, ?_⟩
          · simp only [h0, if_true, show (5 : Int32) = nI 5 from rfl, x_found, b2_some, sSheet, ns, nf, hn', or_self, if_false, fnd]
          · simp only [sSheet, ns, nf, hn', or_self, if_false, h0, if_true, fnd]
            exact h.fnd (by decide)
        · obtain ⟨m, hm, rfl⟩ := nI_of h0
          have hm48 : m ≤ 48 := by
            rcases Nat.lt_or_ge 48 m with q | q
            · exact absurd (nI_lt q hm) hn'
            · exact q
          simp only [h0, if_false, ck_pos (ib_nI hs (by decide : 4 < 2 ^ 31)), ix_nI (show s < 2 ^ 31 by omega), ck_pos (kdS hs)]
          unfold f_X5_renew
          obtain ⟨z', e4, g1, g2, g3⟩ := J_fill (45 + 2 * s + 1) 0 (n := 48) (by decide) (wI (wI z (45 + 2 * s) 2 (nI f)) (45 + 2 * s) 1 (nI m))
          refine ⟨z', by rw [e4]; simp only [b1_some, sSheet, ns, nf, hn', or_self, if_false, h0], ?_⟩
          simp only [sSheet, ns, nf, hn', or_self, if_false, h0, ix_nI (show s < 2 ^ 31 by omega), ix_nI (show f < 2 ^ 31 by omega), ix_nI hm]
          have hfr : ∀ u, u ≠ 45 + 2 * s → u ≠ 46 + 2 * s → rI z' u = rI z u := fun u h1 h2 => by rw [g1 u (by omega), rIf_wI, if_neg h1, rIf_wI, if_neg h1]
          refine h.sh (h.1.2.2.2.2.2.2.1.set hs (fun q hq => by simp [shNew, fup, hq]) hfr ⟨?_, ?_, ?_, ?_, fun i hi => ?_⟩) (fun u hu => hfr u (by omega) (by omega)) g3
          · rw [g1 _ (by omega)]; simp [rI_wI, shNew, fup]
          · rw [g1 _ (by omega)]; simp [rI_wI, shNew, fup]
          · simp [shNew, fup, hf]
          · simp [shNew, fup, hm48]
          · rw [show 46 + 2 * s = 45 + 2 * s + 1 by omega, g2]; simp [shNew, hi]
def sLose (s : Int32) (a : Ab) : Int32 × Ab := if bad s 4 then (-2, a) else if (aSh a).1 (ix s) then (nI ((aSh a).2.2.1 (ix s)), upSh a (shLose (aSh a) (ix s))) else fnd 1 a
theorem X_lose {z : Sg} {a : Ab} (h : AXg PT PR z a) (s : Int32) : ∃ z', f_X7_lose s z = some ((sLose s a).1, z') ∧ AXg PT PR z' (sLose s a).2 := by
  unfold f_X7_lose
  rcases arg_cases s 4 (by decide) with hs | ⟨s, hs, rfl⟩
  · have e : f_X7_outside s 4 = some 1 := x_out_bad (n := 4) hs
    exact ⟨z, by simp [e, b1_some, sLose, bad, hs], by simp only [sLose, bad, hs, if_true]; exact h⟩
  · have e : f_X7_outside (nI s) 4 = some 0 := x_out_nI (n := 4) hs (by decide)
    have ns := not_bad hs (by decide)
    have H := h.1.2.2.2.2.2.2.1
    obtain ⟨k1, k2, k3, k4, k5⟩ := H s hs
    simp only [e, b1_some, not_true, if_false, ck_pos (ib_nI hs (by decide : 4 < 2 ^ 31)), ix_nI (show s < 2 ^ 31 by omega), ck_pos (kdS hs), x_isLost H hs]
    simp only [sLose, ns, if_false, ix_nI (show s < 2 ^ 31 by omega)]
    cases ht : (aSh a).1 s with
    | true =>
      refine ⟨wI z (45 + 2 * s) 1 (-1), by simp only [if_true, not_true, if_false, k1, ht], ?_⟩
      have hfr : ∀ u, u ≠ 45 + 2 * s → u ≠ 46 + 2 * s → rI (wI z (45 + 2 * s) 1 (-1)) u = rI z u := fun u h1 h2 => by rw [rIf_wI, if_neg h1]
      simp only [if_true]
      refine h.sh (H.set hs (fun q hq => by simp [shLose, hq]) hfr ⟨?_, ?_, k3, k4, fun i hi => ?_⟩) (fun u hu => hfr u (by omega) (by omega)) rfl
      · simp [rI_wI, shLose]
      · rw [rI_wI, if_neg (by omega)]; exact k2
      · rw [rI_wI, if_neg (by omega)]; exact k5 i hi
    | false =>
      refine ⟨wI z 0 12 (nI 1), ?_, ?_⟩
      · simp only [Bool.false_eq_true, if_false, show ¬ ((1 : Int32) = 0) by decide, not_false_eq_true, if_true, fnd]
        rfl
      · simp only [Bool.false_eq_true, if_false, fnd]
        exact h.fnd (by decide)
/-- the finding at an item -/
def fAt (h : Shs) (s : Nat) (f i : Int32) : Nat := if h.1 s then (if nI (h.2.1 s) = f then (if bad i (h.2.2.1 s) then 2 else 0) else 3) else 1
theorem x_findingAt {z : Sg} {h : Shs} (H : ShX z h) {s : Nat} (hs : s < 4) (f i : Int32) : f_X5_findingAt (45 + 2 * s) f i z = some (nI (fAt h s f i)) := by
  obtain ⟨k1, k2, k3, k4, k5⟩ := H s hs
  unfold f_X5_findingAt fAt
  rw [x_isLost H hs, k2]
  cases ht : h.1 s with
  | false => simp [b1_some]; rfl
  | true =>
    rw [k1, ht]
    simp only [if_true, b1_some, not_true, if_false]
    by_cases hf : nI (h.2.1 s) = f
    · simp only [hf, not_true, if_true, if_false]
      by_cases hb : bad i (h.2.2.1 s)
      · rw [x_out_bad hb]; simp [b1_some, hb]; rfl
      · rcases arg_cases i (h.2.2.1 s) (by omega) with q | ⟨j, hj, rfl⟩
        · exact absurd q hb
        · rw [x_out_nI hj (by omega)]; simp [b1_some, hb]; rfl
    · simp [hf]; rfl
theorem fAt_le (h : Shs) (s : Nat) (f i : Int32) : fAt h s f i ≤ 5 := by
  unfold fAt
  split
  · split
    · split <;> omega
    · omega
  · omega
theorem fAt_0 {h : Shs} {s : Nat} {f i : Int32} (e : fAt h s f i = 0) : h.1 s = true ∧ nI (h.2.1 s) = f ∧ ¬ bad i (h.2.2.1 s) := by
  unfold fAt at e
  split at e
  · split at e
    · split at e
      · omega
      · exact ⟨by assumption, by assumption, by assumption⟩
    · omega
  · omega
theorem nbad_of {i : Int32} {n : Nat} (hn : n < 2 ^ 31) (h : ¬ bad i n) : ∃ j, j < n ∧ i = nI j := (arg_cases i n hn).resolve_left h
def sPut (s f i v : Int32) (a : Ab) : Int32 × Ab := if bad s 4 ∨ bad f 3 then (-2, a) else if fAt (aSh a) (ix s) f i = 0 then (1, upSh a (shPut (aSh a) (ix s) (ix i) v)) else fnd (fAt (aSh a) (ix s) f i) a
def sGet (s f i : Int32) (a : Ab) : Int32 × Ab := if bad s 4 ∨ bad f 3 then (-2147483648, a) else if fAt (aSh a) (ix s) f i = 0 then ((aSh a).2.2.2 (ix s) (ix i), a) else (-2147483648, upF a (fAt (aSh a) (ix s) f i))
theorem X5_store {z : Sg} {h : Shs} (H : ShX z h) {s i : Nat} (hs : s < 4) (hi : i < 48) (v : Int32) : f_X5_store (45 + 2 * s) (nI i) v z = some (wI z (46 + 2 * s) i (narI (h.2.1 s) v)) := by
  obtain ⟨k1, k2, k3, k4, k5⟩ := H s hs
  unfold f_X5_store
  rw [k2, ck_pos (ib_nI hi (by decide)), ix_nI (by omega), show 45 + 2 * s + 1 = 46 + 2 * s by omega]
  simp only [ck_pos (ib_nI hi (by decide : 48 < 2 ^ 31))]
  rcases (show h.2.1 s = 0 ∨ h.2.1 s = 1 ∨ h.2.1 s = 2 by omega) with e | e | e <;> rw [e]
  · rfl
  · rfl
  · rfl
theorem ShX.put {z : Sg} {h : Shs} (H : ShX z h) {s i : Nat} (hs : s < 4) (hi : i < 48) (v : Int32) : ShX (wI z (46 + 2 * s) i (narI (h.2.1 s) v)) (shPut h s i v) := by
  obtain ⟨k1, k2, k3, k4, k5⟩ := H s hs
  refine H.set hs (fun q hq => by simp [shPut, hq]) (fun u h1 h2 => by rw [rIf_wI, if_neg h2]) ⟨?_, ?_, k3, k4, fun k hk => ?_⟩
  · rw [rI_wI, if_neg (by omega)]; exact k1
  · rw [rI_wI, if_neg (by omega)]; exact k2
  · rw [rI_wI]
    by_cases e : k = i
    · simp [e, shPut]
    · simp [e, shPut, k5 k hk]
theorem X_put {z : Sg} {a : Ab} (h : AXg PT PR z a) (s f i v : Int32) : ∃ z', f_X7_put s f i v z = some ((sPut s f i v a).1, z') ∧ AXg PT PR z' (sPut s f i v a).2 := by
  unfold f_X7_put
  rcases arg_cases s 4 (by decide) with hs | ⟨s, hs, rfl⟩
  · have e : f_X7_outside s 4 = some 1 := x_out_bad (n := 4) hs
    exact ⟨z, by simp [e, b1_some, sPut, bad, hs], by simp only [sPut, bad, hs, true_or, if_true]; exact h⟩
  · have e : f_X7_outside (nI s) 4 = some 0 := x_out_nI (n := 4) hs (by decide)
    have ns := not_bad hs (by decide)
    have H := h.1.2.2.2.2.2.2.1
    rcases arg_cases f 3 (by decide) with hf | ⟨f, hf, rfl⟩
    · have e3 : f_X7_outside f 3 = some 1 := x_out_bad (n := 3) hf
      exact ⟨z, by simp [e, e3, b1_some, sPut, bad, hf], by simp only [sPut, bad, hf, or_true, if_true]; exact h⟩
    · have e3 : f_X7_outside (nI f) 3 = some 0 := x_out_nI (n := 3) hf (by decide)
      have nf := not_bad hf (by decide)
      simp only [e, e3, b1_some, not_true, if_false, Bool.false_eq_true, ck_pos (ib_nI hs (by decide : 4 < 2 ^ 31)), ix_nI (show s < 2 ^ 31 by omega), ck_pos (kdS hs), x_findingAt H hs]
      simp only [sPut, ns, nf, or_self, if_false, ix_nI (show s < 2 ^ 31 by omega)]
      by_cases h0 : fAt (aSh a) s (nI f) i = 0
      · obtain ⟨c1, c2, c3⟩ := fAt_0 h0
        have hk := (H s hs).2.2.2.1
        obtain ⟨j, hj, rfl⟩ := nbad_of (by omega) c3
        simp only [h0, nI_0, not_true, if_false, if_true, X5_store H hs (show j < 48 by omega), b1_some, ix_nI (show j < 2 ^ 31 by omega)]
        exact ⟨_, rfl, h.sh (H.put hs (by omega) v) (fun u hu => by rw [rIf_wI, if_neg (by omega)]) rfl⟩
      · have h1 : ¬ nI (fAt (aSh a) s (nI f) i) = 0 := fun q => h0 ((nI_z (by have := fAt_le (aSh a) s (nI f) i; omega)).mp q)
        simp only [h0, h1, not_false_eq_true, if_true, if_false, x_found, b2_some, fnd]
        exact ⟨_, rfl, h.fnd (fAt_le _ _ _ _)⟩
theorem X_get {z : Sg} {a : Ab} (h : AXg PT PR z a) (s f i : Int32) : ∃ z', f_X7_get s f i z = some ((sGet s f i a).1, z') ∧ AXg PT PR z' (sGet s f i a).2 := by
  unfold f_X7_get
  rcases arg_cases s 4 (by decide) with hs | ⟨s, hs, rfl⟩
  · have e : f_X7_outside s 4 = some 1 := x_out_bad (n := 4) hs
    exact ⟨z, by simp [e, b1_some, sGet, bad, hs], by simp only [sGet, bad, hs, true_or, if_true]; exact h⟩
  · have e : f_X7_outside (nI s) 4 = some 0 := x_out_nI (n := 4) hs (by decide)
    have ns := not_bad hs (by decide)
    have H := h.1.2.2.2.2.2.2.1
    rcases arg_cases f 3 (by decide) with hf | ⟨f, hf, rfl⟩
    · have e3 : f_X7_outside f 3 = some 1 := x_out_bad (n := 3) hf
      exact ⟨z, by simp [e, e3, b1_some, sGet, bad, hf], by simp only [sGet, bad, hf, or_true, if_true]; exact h⟩
    · have e3 : f_X7_outside (nI f) 3 = some 0 := x_out_nI (n := 3) hf (by decide)
      have nf := not_bad hf (by decide)
      simp only [e, e3, b1_some, not_true, if_false, Bool.false_eq_true, ck_pos (ib_nI hs (by decide : 4 < 2 ^ 31)), ix_nI (show s < 2 ^ 31 by omega), ck_pos (kdS hs), x_findingAt H hs]
      simp only [sGet, ns, nf, or_self, if_false, ix_nI (show s < 2 ^ 31 by omega)]
      by_cases h0 : fAt (aSh a) s (nI f) i = 0
      · obtain ⟨c1, c2, c3⟩ := fAt_0 h0
        obtain ⟨k1, k2, k3, k4, k5⟩ := H s hs
        obtain ⟨j, hj, rfl⟩ := nbad_of (by omega) c3
        simp only [h0, nI_0, not_true, if_false, if_true, ck_pos (ib_nI (show j < 48 by omega) (by decide : 48 < 2 ^ 31)), ix_nI (show j < 2 ^ 31 by omega)]
        exact ⟨z, by rw [show 45 + 2 * s + 1 = 46 + 2 * s by omega, k5 j (by omega)], h⟩
      · have h1 : ¬ nI (fAt (aSh a) s (nI f) i) = 0 := fun q => h0 ((nI_z (by have := fAt_le (aSh a) s (nI f) i; omega)).mp q)
        simp only [h0, h1, not_false_eq_true, if_true, if_false]
        exact ⟨_, rfl, h.fnd (fAt_le _ _ _ _)⟩
theorem sub_toInt {m b : Nat} (hm : m ≤ 48) (hb : b < 2 ^ 31) : (nI m - nI b).toInt = (m : Int) - b := by
  rw [Int32.toInt_sub, nI_toInt (by omega), nI_toInt hb]
  exact Int.bmod_eq_of_le (by omega) (by omega)
/-- is there such a range -/
abbrev rng (i n : Int32) (m : Nat) : Prop := ¬ i < 0 ∧ ¬ n < 0 ∧ ix i + ix n ≤ m
theorem x_hasRange {z : Sg} {t m : Nat} (h1 : rI z t 1 = nI m) (hm : m ≤ 48) (i n : Int32) : f_X5_hasRange t i n z = some (if rng i n m then 1 else 0) := by
  unfold f_X5_hasRange
  rw [h1]
  by_cases hi : i < 0
  · rw [if_neg (Int32.not_le.mpr hi)]; simp [b1_some, ck, bz, rng, hi]
  · obtain ⟨c, hc, rfl⟩ := nI_of hi
    rw [if_pos (nI_pos' hc)]
    by_cases hn : n < 0
    · rw [if_neg (Int32.not_le.mpr hn)]; simp [b1_some, ck, bz, rng, hn]
    · obtain ⟨b, hb, rfl⟩ := nI_of hn
      rw [if_pos (nI_pos' hb)]
      have e : nI c ≤ nI m - nI b ↔ c + b ≤ m := by
        rw [Int32.le_iff_toInt_le, sub_toInt hm hb, nI_toInt hc]
        omega
      simp only [e, rng, ix_nI hc, ix_nI hb]
      by_cases hq : c + b ≤ m
      · simp [hq, b1_some, ck, bz, nI_pos hc, nI_pos hb]
      · simp [hq, b1_some, ck, bz]
def sCopy (s i t j n : Int32) (a : Ab) : Int32 × Ab := if bad s 4 ∨ bad t 4 then (-2, a) else if (aSh a).1 (ix s) = false ∨ (aSh a).1 (ix t) = false then fnd 1 a else if ¬ (aSh a).2.1 (ix s) = (aSh a).2.1 (ix t) then fnd 4 a else if ¬ (rng i n ((aSh a).2.2.1 (ix s)) ∧ rng j n ((aSh a).2.2.1 (ix t))) then fnd 2 a else (1, upSh a (shCopy (aSh a) (ix s) (ix i) (ix t) (ix j) (ix n)))
theorem X_copy {z : Sg} {a : Ab} (h : AXg PT PR z a) (s i t j n : Int32) : ∃ z', f_X7_copy s i t j n z = some ((sCopy s i t j n a).1, z') ∧ AXg PT PR z' (sCopy s i t j n a).2 := by
  unfold f_X7_copy
  rcases arg_cases s 4 (by decide) with hs | ⟨s, hs, rfl⟩
  · have e : f_X7_outside s 4 = some 1 := x_out_bad (n := 4) hs
    exact ⟨z, by simp [e, b1_some, sCopy, bad, hs], by simp only [sCopy, bad, hs, true_or, if_true]; exact h⟩
  · have e : f_X7_outside (nI s) 4 = some 0 := x_out_nI (n := 4) hs (by decide)
    have ns := not_bad hs (by decide)
    have H := h.1.2.2.2.2.2.2.1
    rcases arg_cases t 4 (by decide) with ht | ⟨t, ht, rfl⟩
    · have e3 : f_X7_outside t 4 = some 1 := x_out_bad (n := 4) ht
      exact ⟨z, by simp [e, e3, b1_some, sCopy, bad, ht], by simp only [sCopy, bad, ht, or_true, if_true]; exact h⟩
    · have e3 : f_X7_outside (nI t) 4 = some 0 := x_out_nI (n := 4) ht (by decide)
      have nt := not_bad ht (by decide)
      obtain ⟨k1, k2, k3, k4, k5⟩ := H s hs
      obtain ⟨l1, l2, l3, l4, l5⟩ := H t ht
      simp only [e, e3, b1_some, not_true, if_false, Bool.false_eq_true, ck_pos (ib_nI hs (by decide : 4 < 2 ^ 31)), ck_pos (ib_nI ht (by decide : 4 < 2 ^ 31)), ix_nI (show s < 2 ^ 31 by omega), ix_nI (show t < 2 ^ 31 by omega), ck_pos (kdS hs), ck_pos (kdS ht), x_isLost H hs, x_isLost H ht]
      simp only [sCopy, ns, nt, or_self, if_false, ix_nI (show s < 2 ^ 31 by omega), ix_nI (show t < 2 ^ 31 by omega)]
      have hF : ∀ k, k ≤ 5 → ∃ z', b2 (f_X7_found (nI k) z) (fun r z => some (r, z)) = some ((fnd k a).1, z') ∧ AXg PT PR z' (fnd k a).2 := fun k hk => ⟨_, rfl, h.fnd hk⟩
      cases hts : (aSh a).1 s with
      | false => simp only [Bool.false_eq_true, if_false, show ¬ ((1 : Int32) = 0) by decide, not_false_eq_true, if_true, b1_some, true_or]; exact hF 1 (by decide)
      | true =>
        cases htt : (aSh a).1 t with
        | false => simp only [Bool.false_eq_true, if_false, show ¬ ((1 : Int32) = 0) by decide, not_false_eq_true, if_true, not_true, b1_some, or_true]; exact hF 1 (by decide)
        | true =>
          simp only [if_true, not_true, if_false, b1_some, Bool.false_eq_true, Bool.true_eq_false, or_self, k2, l2, nI_eq (show (aSh a).2.1 s < 2 ^ 31 by omega) (show (aSh a).2.1 t < 2 ^ 31 by omega)]
          by_cases hfm : (aSh a).2.1 s = (aSh a).2.1 t
          · simp only [hfm, not_true, if_false]
            rw [hts] at k1
            rw [htt] at l1
            rw [x_hasRange k1 k4, x_hasRange l1 l4]
            by_cases r1 : rng i n ((aSh a).2.2.1 s)
            · by_cases r2 : rng j n ((aSh a).2.2.1 t)
              · rw [if_pos r1, if_pos r2, if_neg (show ¬ ¬ (rng i n ((aSh a).2.2.1 s) ∧ rng j n ((aSh a).2.2.1 t)) from fun q => q ⟨r1, r2⟩)]
                simp only [b1_some, show ¬ ((1 : Int32) = 0) by decide, not_false_eq_true, if_true, if_false, Bool.false_eq_true]
                have hc : cpOK i j n 48 48 := ⟨r1.1, r2.1, r1.2.1, Nat.le_trans r1.2.2 k4, Nat.le_trans r2.2.2 l4⟩
                rw [ck_pos hc]
                refine ⟨_, rfl, ?_⟩
                refine h.sh (H.set ht (fun q hq => by simp [shCopy, hq]) (fun u h1 h2 => by rw [rIf_wA, if_neg (by omega)]) ⟨?_, ?_, l3, l4, fun k hk => ?_⟩) (fun u hu => by rw [rIf_wA, if_neg (by omega)]) rfl
                · rw [rIf_wA, if_neg (by omega), l1]; simp [shCopy, htt]
                · rw [rIf_wA, if_neg (by omega)]; exact l2
                · rw [rIf_wA, if_pos (by omega)]
                  show va_cpy (rI z (45 + 2 * s + 1)) (rI z (45 + 2 * t + 1)) (ix i) (ix j) (ix n) k = _
                  rw [show 45 + 2 * s + 1 = 46 + 2 * s by omega, show 45 + 2 * t + 1 = 46 + 2 * t by omega]
                  unfold va_cpy
                  by_cases hr : ix j ≤ k ∧ k < ix j + ix n
                  · have hx := r1.2.2
                    rw [if_pos hr, k5 _ (by omega)]
                    simp [shCopy, hr]
                  · rw [if_neg hr, l5 k hk]
                    simp only [shCopy, true_and]
                    rw [if_neg hr]
              · rw [if_pos r1, if_neg r2, if_pos (show ¬ (rng i n ((aSh a).2.2.1 s) ∧ rng j n ((aSh a).2.2.1 t)) from fun q => r2 q.2)]
                simp only [b1_some, show ¬ ((1 : Int32) = 0) by decide, not_false_eq_true, if_true, if_false, not_true]; exact hF 2 (by decide)
            · rw [if_neg r1, if_pos (show ¬ (rng i n ((aSh a).2.2.1 s) ∧ rng j n ((aSh a).2.2.1 t)) from fun q => r1 q.1)]
              simp only [b1_some, not_true, if_true, if_false]; exact hF 2 (by decide)
          · simp only [hfm, not_false_eq_true, if_true]; exact hF 4 (by decide)
end SheetX
