/-! SHELVES. -/
/-- how many claimants want a virtue -/
def wnt (t0 t1 : Tx) (v : Nat) : Nat := cnt (fun c => fit t0 t1 c v) (nC t1)
/-- w stands before v on the shelf -/
def bef (t0 t1 : Tx) (v w : Nat) : Bool := decide (wnt t0 t1 v < wnt t0 t1 w) || (decide (wnt t0 t1 w = wnt t0 t1 v) && decide (w < v))
def shN (t0 : Tx) : Nat := if 6 < nV t0 then 6 else nV t0
def plc (t0 t1 : Tx) (v : Nat) : Nat := cnt (bef t0 t1 v) (shN t0)
def stp (t0 t1 : Tx) : Nat → Nat
  | 0 => 0
  | n + 1 => stp t0 t1 n + (plc t0 t1 n + 1) * wnt t0 t1 n
def lst (p : Nat → Bool) : Nat → Option Nat
  | 0 => none
  | n + 1 => if p n then some n else lst p n
theorem lst_some {p : Nat → Bool} {v : Nat} (hv : p v = true) : ∀ n, v < n → (∀ w, w < n → p w = true → w = v) → lst p n = some v
  | 0, h, _ => by omega
  | n + 1, h, hu => by
    show (if p n then some n else lst p n) = _
    by_cases q : p n = true
    · rw [if_pos q, hu n (by omega) q]
    · rw [if_neg q]
      refine lst_some hv n ?_ (fun w hw => hu w (by omega))
      rcases Nat.lt_or_ge v n with h1 | h1
      · exact h1
      · obtain rfl : v = n := by omega
        exact absurd hv q
theorem lst_none {p : Nat → Bool} : ∀ n, (∀ w, w < n → p w = false) → lst p n = none
  | 0, _ => rfl
  | n + 1, h => by
    show (if p n then some n else lst p n) = _
    rw [h n (by omega)]
    exact lst_none n (fun w hw => h w (by omega))
theorem cnt_mono {p q : Nat → Bool} : ∀ n, (∀ i, i < n → p i = true → q i = true) → cnt p n ≤ cnt q n
  | 0, _ => Nat.le_refl _
  | n + 1, h => by
    show cnt p n + (if p n then 1 else 0) ≤ cnt q n + (if q n then 1 else 0)
    have := cnt_mono (p := p) (q := q) n (fun i hi => h i (by omega))
    have h2 := h n (by omega)
    cases hp : p n
    · simp; omega
    · rw [h2 hp]; simp; omega
theorem cnt_lt {p q : Nat → Bool} {j : Nat} (hq : q j = true) (hp : p j = false) : ∀ n, j < n → (∀ i, i < n → p i = true → q i = true) → cnt p n < cnt q n
  | 0, h, _ => by omega
  | n + 1, hj, h => by
    show cnt p n + (if p n then 1 else 0) < cnt q n + (if q n then 1 else 0)
    have h2 := h n (by omega)
    rcases Nat.lt_or_ge j n with h1 | h1
    · have := cnt_lt hq hp n h1 (fun i hi => h i (by omega))
      cases hpn : p n
      · simp; omega
      · rw [h2 hpn]; simp; omega
    · obtain rfl : j = n := by omega
      have := cnt_mono (p := p) (q := q) j (fun i hi => h i (by omega))
      rw [hq, hp]; simp; omega
theorem bef_iff {t0 t1 : Tx} {v w : Nat} : bef t0 t1 v w = true ↔ wnt t0 t1 v < wnt t0 t1 w ∨ wnt t0 t1 w = wnt t0 t1 v ∧ w < v := by simp [bef]
theorem plc_lt {t0 t1 : Tx} {u v : Nat} (hu : u < shN t0) (h : bef t0 t1 v u = true) : plc t0 t1 u < plc t0 t1 v := by
  refine cnt_lt h ?_ _ hu (fun i _ q => ?_)
  · cases q : bef t0 t1 u u with
    | false => rfl
    | true => rcases bef_iff.mp q with h | h <;> omega
  · have a := bef_iff.mp h
    have b := bef_iff.mp q
    exact bef_iff.mpr (by omega)
theorem plc_inj {t0 t1 : Tx} {u v : Nat} (hu : u < shN t0) (hv : v < shN t0) (h : plc t0 t1 u = plc t0 t1 v) : u = v := by
  rcases Nat.lt_trichotomy u v with q | q | q
  · by_cases c : bef t0 t1 v u = true
    · have := plc_lt hu c; omega
    · have : bef t0 t1 u v = true := bef_iff.mpr (by rw [bef_iff] at c; omega)
      have := plc_lt hv this; omega
  · exact q
  · by_cases c : bef t0 t1 v u = true
    · have := plc_lt hu c; omega
    · have : bef t0 t1 u v = true := bef_iff.mpr (by rw [bef_iff] at c; omega)
      have := plc_lt hv this; omega
theorem shN_le (t0 : Tx) : shN t0 ≤ 6 ∧ shN t0 ≤ nV t0 := by unfold shN; split <;> omega
theorem nI_plus (a b : Nat) : nI a + nI b = nI (a + b) := nI_add a b
theorem shN_m {t0 : Tx} (d1 : nV t0 ≤ 8) : (if nI (nV t0) < (6 : Int32) then some (nI (nV t0)) else some (6 : Int32)) = some (nI (shN t0)) := by
  have e : nI (nV t0) < (6 : Int32) ↔ nV t0 < 6 := nI_ltI (a := nV t0) (b := 6) (by omega) (by decide)
  unfold shN
  rcases Nat.lt_trichotomy (nV t0) 6 with q | q | q
  · rw [if_pos (e.mpr q), if_neg (by omega)]
  · rw [if_neg (fun x => by have := e.mp x; omega), if_neg (by omega), q]; rfl
  · rw [if_neg (fun x => by have := e.mp x; omega), if_pos q]; rfl
theorem shN_x {t0 : Tx} (d1 : nV t0 ≤ 8) : (if (6 : Int32) < nI (nV t0) then (6 : Int32) else nI (nV t0)) = nI (shN t0) := by
  have e : (6 : Int32) < nI (nV t0) ↔ 6 < nV t0 := nI_ltI (a := 6) (b := nV t0) (by decide) (by omega)
  unfold shN
  by_cases q : 6 < nV t0
  · rw [if_pos (e.mpr q), if_pos q]; rfl
  · rw [if_neg (fun x => q (e.mp x)), if_neg q]
section Shelf
variable {z : Sg} {t0 t1 : Tx}
theorem wnt_le (d : DOK t0 t1) (v : Nat) : wnt t0 t1 v ≤ 8 := Nat.le_trans (cnt_le _ _) d.2.1
theorem x_wantedBy (r : RDx z t0 t1) (d : DOK t0 t1) {v : Nat} (hv : v < nV t0) : f_X2_wantedBy (nI v) z = some (nI (wnt t0 t1 v)) := by
  have hB : bO (fun c => fit t0 t1 c v) (nC t1) < 256 := Nat.lt_of_lt_of_le (bO_lt _ _) (Nat.pow_le_pow_right (n := 2) (by decide) d.2.1)
  unfold f_X2_wantedBy
  rw [x_claimantsFitting r d hv, b1_some, x_bitCount hB, pc_bO d.2.1]
  rfl
theorem m_wanted (r : RDm z t0 t1) (d : DOK t0 t1) {v : Nat} (hv : v < nV t0) : f_X8_fittingOf 1 (nI v) z = some (nI (bO (fun c => fit t0 t1 c v) (nC t1))) ∧ f_X8_ones (nI (bO (fun c => fit t0 t1 c v) (nC t1))) = some (nI (wnt t0 t1 v)) := by
  have hB : bO (fun c => fit t0 t1 c v) (nC t1) < 256 := Nat.lt_of_lt_of_le (bO_lt _ _) (Nat.pow_le_pow_right (n := 2) (by decide) d.2.1)
  refine ⟨m_fittingOf1 r d hv, ?_⟩
  rw [m_ones (by omega), pc_bO d.2.1]
  rfl
theorem x_shelfPlace (r : RDx z t0 t1) (d : DOK t0 t1) {v : Nat} (hv : v < nV t0) : f_X7_shelfPlace (nI v) (nI (shN t0)) z = some (nI (plc t0 t1 v)) := by
  have d1 := d.1
  obtain ⟨s1, s2⟩ := shN_le t0
  unfold f_X7_shelfPlace
  rw [x_wantedBy r d hv, b1_some]
  have := lp_up (fun n b i => f_X7_shelfPlace_lp1 (nI v) (nI (shN t0)) (nI (wnt t0 t1 v)) z n b i) (shN t0) (fun i => nI (cnt (bef t0 t1 v) i)) (nI (plc t0 t1 v)) (fun n => by
    show f_X7_shelfPlace_lp1 _ _ _ z (n + 1) _ _ = _
    rw [f_X7_shelfPlace_lp1, if_neg Int32.lt_irrefl]; rfl) (fun n i hi => by
    show f_X7_shelfPlace_lp1 _ _ _ z (n + 1) _ _ = f_X7_shelfPlace_lp1 _ _ _ z n (nI (cnt (bef t0 t1 v) i + if bef t0 t1 v i then 1 else 0)) _
    have w1 := wnt_le d i
    have w2 := wnt_le d v
    rw [f_X7_shelfPlace_lp1, if_pos (nI_lt hi (by omega)), x_wantedBy r d (by omega), b1_some, nI_l1, nI_l1]
    have e1 := nI_ltI (a := wnt t0 t1 v) (b := wnt t0 t1 i) (by omega) (by omega)
    have e2 := nI_eq (a := wnt t0 t1 i) (b := wnt t0 t1 v) (by omega) (by omega)
    have e3 := nI_ltI (a := i) (b := v) (by omega) (by omega)
    simp only [e1, e2, e3, bef]
    by_cases c1 : wnt t0 t1 v < wnt t0 t1 i
    · simp [c1, b1_some]
    · by_cases c2 : wnt t0 t1 i = wnt t0 t1 v
      · by_cases c3 : i < v <;> simp [c2, c3, b1_some]
      · simp [c1, c2, b1_some]) 4096 (by omega)
  rw [show f_X7_shelfPlace_lp1 (nI v) (nI (shN t0)) (nI (wnt t0 t1 v)) z 4096 0 0 = _ from this]
  rfl
theorem plc_le (t0 t1 : Tx) (v : Nat) : plc t0 t1 v ≤ 6 := Nat.le_trans (cnt_le _ _) (shN_le t0).1
theorem x_shelves_n (r : RDx z t0 t1) (d : DOK t0 t1) : f_X7_shelves_lp1 (-1) (nI (shN t0)) z 4096 0 0 = some (nI (stp t0 t1 (shN t0))) := by
  have d1 := d.1
  obtain ⟨s1, s2⟩ := shN_le t0
  exact lp_up (fun n b i => f_X7_shelves_lp1 (-1) (nI (shN t0)) z n b i) (shN t0) (fun i => nI (stp t0 t1 i)) (nI (stp t0 t1 (shN t0))) (fun n => by
    show f_X7_shelves_lp1 _ _ z (n + 1) _ _ = _
    rw [f_X7_shelves_lp1, if_neg Int32.lt_irrefl]; rfl) (fun n i hi => by
    show f_X7_shelves_lp1 _ _ z (n + 1) _ _ = f_X7_shelves_lp1 _ _ z n (nI (stp t0 t1 i + (plc t0 t1 i + 1) * wnt t0 t1 i)) _
    have p1 := plc_le t0 t1 i
    rw [f_X7_shelves_lp1, if_pos (nI_lt hi (by omega)), x_shelfPlace r d (by omega), b1_some, if_neg (nI_ne_m1 (by omega)), x_wantedBy r d (by omega), b1_some, nI_l1, nI_l1, nI_mul, nI_plus]) 4096 (by omega)
theorem x_shelves_k (r : RDx z t0 t1) (d : DOK t0 t1) {k : Nat} (hk : k < 6) : f_X7_shelves_lp1 (nI k) (nI (shN t0)) z 4096 0 0 = some (opI (lst (fun v => plc t0 t1 v == k) (shN t0))) := by
  have d1 := d.1
  obtain ⟨s1, s2⟩ := shN_le t0
  have key : ∀ (e i n : Nat) (s : Int32), i + e = shN t0 → (∀ w, w < i → plc t0 t1 w ≠ k) → f_X7_shelves_lp1 (nI k) (nI (shN t0)) z (n + 1 + e) s (nI i) = some (opI (lst (fun v => plc t0 t1 v == k) (shN t0))) := by
    intro e
    induction e with
    | zero =>
      intro i n s hi ha
      obtain rfl : i = shN t0 := by omega
      rw [Nat.add_zero, f_X7_shelves_lp1, if_neg Int32.lt_irrefl, if_neg (nI_ne_m1 (by omega)), b1_some, lst_none _ (fun w hw => by simp [ha w hw])]
      rfl
    | succ e ih =>
      intro i n s hi ha
      have p1 := plc_le t0 t1 i
      rw [show n + 1 + (e + 1) = (n + 1 + e) + 1 by omega, f_X7_shelves_lp1, if_pos (nI_lt (by omega) (by omega)), x_shelfPlace r d (by omega), b1_some]
      by_cases q : plc t0 t1 i = k
      · rw [if_pos (by rw [q]), lst_some (v := i) (by simp [q]) _ (by omega) (fun w hw hp => plc_inj (t1 := t1) hw (by omega) (by simp at hp; omega))]
        rfl
      · rw [if_neg (fun x => q (nI_inj (by omega) (by omega) x)), x_wantedBy r d (by omega), b1_some, nI_l1 (i := i)]
        refine ih (i + 1) n _ (by omega) (fun w hw => ?_)
        rcases Nat.lt_or_ge w i with h1 | h1
        · exact ha w h1
        · obtain rfl : w = i := by omega
          exact q
  have h := key (shN t0) 0 (4095 - shN t0) 0 (by omega) (fun w hw => by omega)
  rw [show 4095 - shN t0 + 1 + shN t0 = 4096 by omega, nI_0] at h
  exact h
theorem m_shelves_lp2 (r : RDm z t0 t1) (d : DOK t0 t1) {v : Nat} (hv : v < nV t0) : f_X8_shelvesOf_lp2 (nI (shN t0)) (nI v) (nI (wnt t0 t1 v)) z 4096 0 0 = some (nI (plc t0 t1 v)) := by
  have d1 := d.1
  obtain ⟨s1, s2⟩ := shN_le t0
  exact lp_up (fun n b i => f_X8_shelvesOf_lp2 (nI (shN t0)) (nI v) (nI (wnt t0 t1 v)) z n b i) (shN t0) (fun i => nI (cnt (bef t0 t1 v) i)) (nI (plc t0 t1 v)) (fun n => by
    show f_X8_shelvesOf_lp2 _ _ _ z (n + 1) _ _ = _
    rw [f_X8_shelvesOf_lp2, if_neg Int32.lt_irrefl]; rfl) (fun n i hi => by
    show f_X8_shelvesOf_lp2 _ _ _ z (n + 1) _ _ = f_X8_shelvesOf_lp2 _ _ _ z n (nI (cnt (bef t0 t1 v) i + if bef t0 t1 v i then 1 else 0)) _
    have w1 := wnt_le d i
    have w2 := wnt_le d v
    rw [f_X8_shelvesOf_lp2, if_pos (nI_lt hi (by omega)), (m_wanted r d (show i < nV t0 by omega)).1, b1_some, (m_wanted r d (show i < nV t0 by omega)).2, b1_some, nI_l1 (i := i)]
    have e1 := nI_ltI (a := wnt t0 t1 v) (b := wnt t0 t1 i) (by omega) (by omega)
    have e2 := nI_eq (a := wnt t0 t1 i) (b := wnt t0 t1 v) (by omega) (by omega)
    have e3 := nI_ltI (a := i) (b := v) (by omega) (by omega)
    simp only [e1, e2, e3, bef]
    by_cases c1 : wnt t0 t1 v < wnt t0 t1 i
    · simp [c1, b1_some, nI_l1]
    · by_cases c2 : wnt t0 t1 i = wnt t0 t1 v
      · by_cases c3 : i < v <;> simp [c2, c3, b1_some, nI_l1]
      · simp [c1, c2, b1_some]) 4096 (by omega)
theorem m_shelves_lp (r : RDm z t0 t1) (d : DOK t0 t1) (i : Int32) {p : Nat → Bool} (hp : ∀ v, v < shN t0 → (nI (plc t0 t1 v) = i ↔ p v = true)) : f_X8_shelvesOf_lp1 i (nI (shN t0)) z 4096 0 (-1) 0 = some (nI (stp t0 t1 (shN t0)), opI (lst p (shN t0))) := by
  have d1 := d.1
  obtain ⟨s1, s2⟩ := shN_le t0
  exact lp_up (fun n (b : Int32 × Int32) j => f_X8_shelvesOf_lp1 i (nI (shN t0)) z n b.1 b.2 j) (shN t0) (fun j => (nI (stp t0 t1 j), opI (lst p j))) _ (fun n => by
    show f_X8_shelvesOf_lp1 _ _ z (n + 1) _ _ _ = _
    rw [f_X8_shelvesOf_lp1, if_neg Int32.lt_irrefl]) (fun n j hj => by
    show f_X8_shelvesOf_lp1 _ _ z (n + 1) _ _ _ = f_X8_shelvesOf_lp1 _ _ z n (nI (stp t0 t1 j + (plc t0 t1 j + 1) * wnt t0 t1 j)) (opI (if p j then some j else lst p j)) _
    rw [f_X8_shelvesOf_lp1, if_pos (nI_lt hj (by omega)), (m_wanted r d (show j < nV t0 by omega)).1, b1_some, (m_wanted r d (show j < nV t0 by omega)).2, b1_some, m_shelves_lp2 r d (by omega), b1_some, nI_l1, nI_l1, nI_mul, nI_plus]
    have e := hp j hj
    by_cases q : p j = true
    · rw [if_pos (e.mpr q), b1_some, if_pos q]; rfl
    · rw [if_neg (fun x => q (e.mp x)), b1_some, if_neg q]) 4096 (by omega)
end Shelf
def sShelves (i : Int32) (a : Ab) : Int32 := if i = -1 then nI (stp (aT0 a) (aT1 a) (shN (aT0 a))) else if bad i 6 then -2 else opI (lst (fun v => plc (aT0 a) (aT1 a) v == ix i) (shN (aT0 a)))
theorem m_shelvesN {z : Sg} {a : Ab} (h : AM z a) : ∃ z', f_X8_shelvesOf (-1) z = some (nI (stp (aT0 a) (aT1 a) (shN (aT0 a))), z') ∧ AM z' a ∧ RDm z' (aT0 a) (aT1 a) := by
  obtain ⟨z', e, h', r, -, -⟩ := m_reads h
  have d1 := h.dok.1
  refine ⟨z', ?_, h', r⟩
  unfold f_X8_shelvesOf
  rw [e, b1_some, r.1, shN_m d1, b1_some, m_shelves_lp r h.dok (-1) (p := fun _ => false) (fun v hv => by have := plc_le (aT0 a) (aT1 a) v; simp [nI_ne_m1 (show plc (aT0 a) (aT1 a) v < 2 ^ 31 by omega)]), b2_some, if_pos rfl]
  rfl
theorem m_shelvesK {z : Sg} {a : Ab} (h : AM z a) {k : Nat} (hk : k < 6) : ∃ z', f_X8_shelvesOf (nI k) z = some (opI (lst (fun v => plc (aT0 a) (aT1 a) v == k) (shN (aT0 a))), z') ∧ AM z' a ∧ RDm z' (aT0 a) (aT1 a) := by
  obtain ⟨z', e, h', r, -, -⟩ := m_reads h
  have d1 := h.dok.1
  refine ⟨z', ?_, h', r⟩
  unfold f_X8_shelvesOf
  rw [e, b1_some, r.1, shN_m d1, b1_some, m_shelves_lp r h.dok (nI k) (p := fun v => plc (aT0 a) (aT1 a) v == k) (fun v hv => by
    have := plc_le (aT0 a) (aT1 a) v
    rw [nI_eq (by omega) (by omega)]; simp), b2_some, if_neg (nI_ne_m1 (by omega))]
  rfl
section ShelfC
variable {PT : VT → KT → Prop} {PR : (Nat → Int64) → Tx → Tx → Prop}
theorem m1_neg {i : Int32} (h : i ≠ -1) : i < -1 ↔ i < 0 := by
  have h2 : i.toInt ≠ (-1 : Int32).toInt := fun x => h (Int32.toInt_inj.mp x)
  rw [Int32.lt_iff_toInt_lt, Int32.lt_iff_toInt_lt]
  have e1 : (-1 : Int32).toInt = -1 := by decide
  have e0 : (0 : Int32).toInt = 0 := by decide
  rw [e1] at h2
  rw [e1, e0]
  omega
theorem m1_le {i : Int32} (h : i ≠ -1) : (-1 : Int32) ≤ i ↔ ¬ i < 0 := by
  rw [← m1_neg h, Int32.not_lt]
theorem X_shelves {z : Sg} {a : Ab} (h : AXg PT PR z a) (i : Int32) : f_X7_shelves i z = some (sShelves i a) := by
  have d1 := h.1.dok.1
  unfold f_X7_shelves sShelves
  rw [h.1.rd.1, shN_x d1]
  by_cases c : i = -1
  · subst c
    rw [if_neg (by decide), if_neg (by decide), b1_some, if_neg (by decide), if_pos rfl]
    exact x_shelves_n h.1.rd h.1.dok
  · rw [if_neg c]
    simp only [m1_neg c]
    rcases arg_cases i 6 (by decide) with hk | ⟨k, hk, rfl⟩
    · have hb : bad i 6 := hk
      rw [if_pos hb]
      by_cases c1 : i < 0
      · rw [if_pos c1, b1_some, if_pos rfl]
      · have c2 : (6 : Int32) ≤ i := hk.resolve_left c1
        rw [if_neg c1, if_pos c2, b1_some, if_pos rfl]
    · have n1 := not_bad hk (by decide)
      rw [if_neg n1, if_neg (fun q => n1 (Or.inl q)), if_neg (show ¬ (6 : Int32) ≤ nI k from fun q => n1 (Or.inr q)), b1_some, if_neg (by decide), x_shelves_k h.1.rd h.1.dok hk, ix_nI (by omega)]
theorem M_shelves {z : Sg} {a : Ab} (h : AM z a) (i : Int32) : ∃ z', f_X8_shelves i z = some (sShelves i a, z') ∧ AM z' a := by
  unfold f_X8_shelves sShelves
  rw [m_in]
  by_cases c : i = -1
  · subst c
    obtain ⟨z', e2, h', -⟩ := m_shelvesN h
    refine ⟨z', ?_, h'⟩
    rw [if_pos ⟨by decide, by decide⟩, b1_some, if_pos ne10, e2, b2_some, b2_some, if_pos rfl]
  · rw [if_neg c]
    rcases arg_cases i 6 (by decide) with hk | ⟨k, hk, rfl⟩
    · have hb : bad i 6 := hk
      refine ⟨z, ?_, h⟩
      rw [if_neg, b1_some, if_neg (by decide), b2_some, if_pos hb]
      rintro ⟨q1, q2⟩
      rcases hk with hk | hk
      · exact (m1_le c).mp q1 hk
      · have : (6 : Int32) ≤ 5 := Int32.le_trans hk q2
        exact absurd this (by decide)
    · have n1 := not_bad hk (by decide)
      obtain ⟨z', e2, h', -⟩ := m_shelvesK h hk
      refine ⟨z', ?_, h'⟩
      rw [if_pos ⟨(m1_le c).mpr (fun q => n1 (Or.inl q)), nI_le (b := 5) (by omega) (by decide)⟩, b1_some, if_pos ne10, e2, b2_some, b2_some, if_neg n1, ix_nI (by omega)]
end ShelfC
