/-! LIE, and what GUESS and GUARD count. -/
/-- the first of the sets of fewest ones among those below -/
def bS (p : Nat → Bool) : Nat → Option Nat
  | 0 => none
  | n + 1 => if p n && (match bS p n with
    | none => true
    | some b => decide (pc8 n < pc8 b)) then some n else bS p n
theorem bS_s (p : Nat → Bool) (n : Nat) : bS p (n + 1) = if p n && (match bS p n with
    | none => true
    | some b => decide (pc8 n < pc8 b)) then some n else bS p n := rfl
theorem bS_lt (p : Nat → Bool) : ∀ n b, bS p n = some b → b < n
  | 0, b, h => by cases h
  | n + 1, b, h => by
    rw [bS_s] at h
    by_cases c : (p n && (match bS p n with
      | none => true
      | some b => decide (pc8 n < pc8 b))) = true
    · rw [if_pos c] at h; cases h; omega
    · rw [if_neg c] at h; have := bS_lt p n b h; omega
theorem bS_congr {p q : Nat → Bool} : ∀ n, (∀ i, i < n → p i = q i) → bS p n = bS q n
  | 0, _ => rfl
  | n + 1, h => by rw [bS_s, bS_s, bS_congr n (fun i hi => h i (by omega)), h n (by omega)]
def opI (o : Option Nat) : Int32 := match o with
  | none => -1
  | some b => nI b
def opF (o : Option Nat) : Int32 := match o with
  | none => 5
  | some b => nI (pc8 b)
theorem pc_lt16 : ∀ a : Fin 16, pc8 a.1 ≤ 4 := by decide +kernel
/-- is virtue v like V in all of the sorts -/
def al (t0 : Tx) (S V v : Nat) : Bool := ((hiB t0.2 v ^^^ hiB t0.2 V) &&& S) == 0
theorem al_iff {t0 : Tx} {S V v : Nat} (hS : S < 16) : ((nI (hiB t0.2 v) ^^^ nI (hiB t0.2 V)) &&& nI S = 0) ↔ al t0 S V v = true := by
  rw [nI_xor, nI_and, nI_z (Nat.lt_of_le_of_lt Nat.and_le_right (by omega))]
  unfold al
  simp
theorem al_self (t0 : Tx) (S V : Nat) : al t0 S V V = true := by unfold al; simp
theorem bO_one {p : Nat → Bool} {n V : Nat} (hV : V < n) (hn : n ≤ 8) (hp : p V = true) : (bO p n = 2 ^ V) ↔ ∀ v, v < n → v ≠ V → p v = false := by
  constructor
  · intro h v hv hne
    have := bO_test p n v
    rw [h, Nat.testBit_two_pow] at this
    simp [hv, show ¬ V = v by omega] at this
    cases q : p v with
    | false => rfl
    | true => rw [q] at this; simp at this
  · intro h
    apply Nat.eq_of_testBit_eq
    intro i
    rw [bO_test, Nat.testBit_two_pow]
    by_cases e : V = i
    · subst e; simp [hV, hp]
    · by_cases c : i < n
      · simp [e, c, h i c (by omega)]
      · simp [e, c]
/-- all of those below n -/
def alln (p : Nat → Bool) : Nat → Bool
  | 0 => true
  | n + 1 => alln p n && p n
theorem alln_iff {p : Nat → Bool} : ∀ n, alln p n = true ↔ ∀ i, i < n → p i = true
  | 0 => by simp [alln]
  | n + 1 => by
    unfold alln
    rw [Bool.and_eq_true, alln_iff n]
    constructor
    · rintro ⟨h1, h2⟩ i hi
      by_cases e : i = n
      · subst e; exact h2
      · exact h1 i (by omega)
    · exact fun h => ⟨fun i hi => h i (by omega), h n (by omega)⟩
/-- a set of sorts by which V alone is told -/
def lieP (t0 : Tx) (e V S : Nat) : Bool := decide (e ≤ pc8 S) && alln (fun v => v == V || !al t0 S V v) (nV t0)
section Lie
variable {z : Sg} {t0 t1 : Tx}
theorem x_alikeIn (r : RDx z t0 t1) (d : DOK t0 t1) {V S : Nat} (hV : V < nV t0) (hS : S < 16) : f_X2_alikeIn (nI V) (nI S) z = some (nI (bO (al t0 S V) (nV t0))) := by
  have d1 := d.1
  unfold f_X2_alikeIn
  have := lp_up (fun n b i => f_X2_alikeIn_lp1 (nI V) (nI S) z n b i) (nV t0) (fun i => nI (bO (al t0 S V) i)) (nI (bO (al t0 S V) (nV t0))) (fun n => by
    show f_X2_alikeIn_lp1 _ _ z (n + 1) _ _ = _
    rw [f_X2_alikeIn_lp1, r.1, if_neg Int32.lt_irrefl]) (fun n i hi => by
    show f_X2_alikeIn_lp1 _ _ z (n + 1) _ _ = f_X2_alikeIn_lp1 _ _ z n _ _
    rw [f_X2_alikeIn_lp1, r.1, if_pos (nI_lt hi (by omega))]
    simp only [ck_pos (ib_nI (show i < 8 by omega) (by decide : 8 < 2 ^ 31)), ck_pos (ib_nI (show V < 8 by omega) (by decide : 8 < 2 ^ 31)), ix_nI (show i < 2 ^ 31 by omega), ix_nI (show V < 2 ^ 31 by omega), (r.2.2.1 i hi).1, (r.2.2.1 V hV).1, al_iff hS, nI_l1]
    rw [← bO_step (by omega)]
    cases al t0 S V i <;> rfl) 4096 (by omega)
  rw [show f_X2_alikeIn_lp1 (nI V) (nI S) z 4096 0 0 = _ from this]
  rfl
theorem x_onlyOneSuch (r : RDx z t0 t1) (d : DOK t0 t1) {V S : Nat} (hV : V < nV t0) (hS : S < 16) : f_X2_onlyOneSuch (nI V) (nI S) z = some (if alln (fun v => v == V || !al t0 S V v) (nV t0) then 1 else 0) := by
  have d1 := d.1
  unfold f_X2_onlyOneSuch
  have hl : bO (al t0 S V) (nV t0) < 256 := Nat.lt_of_lt_of_le (bO_lt _ _) (Nat.pow_le_pow_right (n := 2) (by decide) d1)
  have hp : 2 ^ V < 2 ^ 31 := Nat.pow_lt_pow_right (by decide) (by omega)
  have e : (nI (bO (al t0 S V) (nV t0)) = jshl 1 (nI V)) ↔ alln (fun v => v == V || !al t0 S V v) (nV t0) = true := by
    rw [one_shl (by omega), nI_eq (by omega) hp, bO_one hV d1 (al_self t0 S V), alln_iff]
    constructor
    · intro h v hv
      by_cases q : v = V
      · simp [q]
      · simp [h v hv q]
    · intro h v hv hne
      have := h v hv
      simpa [hne] using this
  rw [x_alikeIn r d hV hS, b1_some]
  simp only [e]
  cases alln (fun v => v == V || !al t0 S V v) (nV t0) <;> rfl
theorem x_lie_lp (r : RDx z t0 t1) (d : DOK t0 t1) {V e : Nat} (hV : V < nV t0) (he : rI z 9 2 = nI e) (he4 : e ≤ 4) : f_X7_lie_lp1 (nI V) z 4096 (-1) 5 0 = some (opI (bS (lieP t0 e V) 16), opF (bS (lieP t0 e V) 16)) := by
  exact lp_up (fun n (b : Int32 × Int32) i => f_X7_lie_lp1 (nI V) z n b.1 b.2 i) 16 (fun i => (opI (bS (lieP t0 e V) i), opF (bS (lieP t0 e V) i))) _ (fun n => by
    show f_X7_lie_lp1 _ z (n + 1) _ _ _ = _
    rw [f_X7_lie_lp1, if_neg (show ¬ nI 16 < (16 : Int32) from Int32.lt_irrefl)]) (fun n i hi => by
    show f_X7_lie_lp1 _ z (n + 1) _ _ _ = f_X7_lie_lp1 _ z n _ _ _
    have hpc := pc_lt16 ⟨i, hi⟩
    simp only at hpc
    rw [f_X7_lie_lp1, if_pos (show nI i < (16 : Int32) from nI_lt (b := 16) hi (by decide)), x_bitCount (by omega), b1_some, he, nI_l1, x_onlyOneSuch r d hV hi]
    have e1 : (nI e ≤ nI (pc8 i)) ↔ e ≤ pc8 i := nI_leI (by omega) (by omega)
    have e2 : (nI (pc8 i) < opF (bS (lieP t0 e V) i)) ↔ (match bS (lieP t0 e V) i with
        | none => true
        | some b => decide (pc8 i < pc8 b)) = true := by
      cases hb : bS (lieP t0 e V) i with
      | none =>
        have : nI (pc8 i) < (5 : Int32) := nI_lt (b := 5) (by omega) (by decide)
        simp [opF, this]
      | some b =>
        have hb16 := bS_lt _ _ _ hb
        have hpb := pc_lt16 ⟨b, by omega⟩
        simp only at hpb
        simp only [opF, decide_eq_true_eq]
        exact nI_ltI (by omega) (by omega)
    simp only [e1, e2]
    rw [bS_s]
    unfold lieP
    by_cases q1 : e ≤ pc8 i
    · cases hm : (match bS (lieP t0 e V) i with
        | none => true
        | some b => decide (pc8 i < pc8 b))
      · unfold lieP at hm
        rw [hm]
        simp [q1, b1_some, b2_some]
      · unfold lieP at hm
        rw [hm]
        cases ha : alln (fun v => v == V || !al t0 i V v) (nV t0)
        · simp [q1, b1_some, b2_some]
        · simp [q1, b1_some, b2_some, opI, opF]
    · simp [q1, b1_some, b2_some]) 4096 (by decide)
theorem m_lieOf_lp2 (r : RDm z t0 t1) (d : DOK t0 t1) {V S : Nat} (hV : V < nV t0) (hS : S < 16) (q : Bool) : f_X8_lieOf_lp2 (nI V) (nI S) z 4096 (if q then 1 else 0) 0 = some (if q && alln (fun v => v == V || !al t0 S V v) (nV t0) then 1 else 0) := by
  have d1 := d.1
  have := lp_up (fun n (b : Int32) i => f_X8_lieOf_lp2 (nI V) (nI S) z n b i) (nV t0) (fun i => if q && alln (fun v => v == V || !al t0 S V v) i then (1 : Int32) else 0) (if q && alln (fun v => v == V || !al t0 S V v) (nV t0) then 1 else 0) (fun n => by
    show f_X8_lieOf_lp2 _ _ z (n + 1) _ _ = _
    rw [f_X8_lieOf_lp2, r.1, if_neg Int32.lt_irrefl]) (fun n i hi => by
    show f_X8_lieOf_lp2 _ _ z (n + 1) _ _ = f_X8_lieOf_lp2 _ _ z n _ _
    rw [f_X8_lieOf_lp2, r.1, if_pos (nI_lt hi (by omega))]
    simp only [ck_pos (ib_nI (show i < 9 by omega) (by decide : 9 < 2 ^ 31)), ck_pos (ib_nI (show V < 9 by omega) (by decide : 9 < 2 ^ 31)), ix_nI (show i < 2 ^ 31 by omega), ix_nI (show V < 2 ^ 31 by omega), (r.2.2.1 i hi).1, (r.2.2.1 V hV).1, al_iff hS, nI_l1, nI_eq (show i < 2 ^ 31 by omega) (show V < 2 ^ 31 by omega)]
    show _ = f_X8_lieOf_lp2 (nI V) (nI S) z n (if q && (alln (fun v => v == V || !al t0 S V v) i && (i == V || !al t0 S V i)) then 1 else 0) (nI (i + 1))
    cases q
    · simp [b1_some]
    · cases alln (fun v => v == V || !al t0 S V v) i
      · simp [b1_some]
      · by_cases c : i = V
        · simp [c, b1_some]
        · cases hal : al t0 S V i <;> simp [c, hal, b1_some]) 4096 (by omega)
  simpa [alln, nI_0] using this
theorem m_lieOf (r : RDm z t0 t1) (d : DOK t0 t1) {V e : Nat} (hV : V < nV t0) (he : rI z 0 9 = nI e) (he4 : e ≤ 4) : f_X8_lieOf (nI V) z = some (opI (bS (lieP t0 e V) 16)) := by
  unfold f_X8_lieOf
  have := lp_up (fun n (b : Int32) i => f_X8_lieOf_lp1 (nI V) z n b i) 16 (fun i => opI (bS (lieP t0 e V) i)) (opI (bS (lieP t0 e V) 16)) (fun n => by
    show f_X8_lieOf_lp1 _ z (n + 1) _ _ = _
    rw [f_X8_lieOf_lp1, if_neg (show ¬ nI 16 < (16 : Int32) from Int32.lt_irrefl)]) (fun n i hi => by
    show f_X8_lieOf_lp1 _ z (n + 1) _ _ = f_X8_lieOf_lp1 _ z n _ _
    have hpc := pc_lt16 ⟨i, hi⟩
    simp only at hpc
    have e1 : (nI e ≤ nI (pc8 i)) ↔ e ≤ pc8 i := nI_leI (by omega) (by omega)
    rw [f_X8_lieOf_lp1, if_pos (show nI i < (16 : Int32) from nI_lt (b := 16) hi (by decide)), m_ones (show i < 2 ^ 31 by omega), b1_some, he, nI_l1]
    have e3 : (if nI e ≤ nI (pc8 i) then some (1 : Int32) else some 0) = some (if decide (e ≤ pc8 i) then 1 else 0) := by
      simp only [e1, decide_eq_true_eq]
      split <;> rfl
    rw [e3, b1_some, m_lieOf_lp2 r d hV hi, b1_some]
    rw [bS_s]
    have hP : (decide (e ≤ pc8 i) && alln (fun v => v == V || !al t0 i V v) (nV t0)) = lieP t0 e V i := rfl
    rw [hP]
    cases hq : lieP t0 e V i
    · simp [b1_some]
    · cases hb : bS (lieP t0 e V) i with
      | none => simp [b1_some, opI]
      | some b =>
        have hb16 := bS_lt _ _ _ hb
        have hpb := pc_lt16 ⟨b, by omega⟩
        simp only at hpb
        rw [show opI (some b) = nI b from rfl, m_ones (show b < 2 ^ 31 by omega)]
        simp only [if_true, ne10, not_false_eq_true, nI_ne_m1 (show b < 2 ^ 31 by omega), if_false, b1_some, Bool.true_and, nI_ltI (show pc8 i < 2 ^ 31 by omega) (show pc8 b < 2 ^ 31 by omega)]
        by_cases q : pc8 i < pc8 b
        · simp [q, b1_some, opI]
        · simp [q, b1_some, opI]) 4096 (by decide)
  rw [show f_X8_lieOf_lp1 (nI V) z 4096 (-1) 0 = _ from this]
  rfl
end Lie
def sLie (v : Int32) (a : Ab) : Int32 := if bad v (nV (aT0 a)) then -2 else opI (bS (lieP (aT0 a) (aE a) (ix v)) 16)
section LieC
variable {PT : VT → KT → Prop} {PR : (Nat → Int64) → Tx → Tx → Prop}
theorem X_lie {z : Sg} {a : Ab} (h : AXg PT PR z a) (v : Int32) : f_X7_lie v z = some (sLie v a) := by
  unfold f_X7_lie sLie
  have r := h.1.rd
  have d := h.1.dok
  have d1 := d.1
  have s := h.1.2.2.1
  rw [x_noVirtue r d]
  rcases arg_cases v (nV (aT0 a)) (by omega) with hv | ⟨v, hv, rfl⟩
  · simp [b1_some, bad, hv]
  · have n1 := not_bad hv (by omega)
    rw [if_neg n1, if_neg n1, b1_some, if_neg (by decide), x_lie_lp r d hv s.1 s.2.2.2.1, ix_nI (by omega)]
    rfl
theorem M_lie {z : Sg} {a : Ab} (h : AM z a) (v : Int32) : ∃ z', f_X8_lie v z = some (sLie v a, z') ∧ AM z' a := by
  unfold f_X8_lie sLie
  have d := h.dok
  have d1 := d.1
  obtain ⟨z', e, h', r⟩ := m_isVirtue h v
  refine ⟨z', ?_, h'⟩
  rw [e, b2_some]
  rcases arg_cases v (nV (aT0 a)) (by omega) with hv | ⟨v, hv, rfl⟩
  · simp [b2_some, bad, hv]
  · have n1 := not_bad hv (by omega)
    rw [if_neg n1, if_neg n1, if_pos ne10, m_lieOf r d hv h'.2.2.1.1 h'.2.2.1.2.2.2.1, ix_nI (by omega)]
    rfl
end LieC
