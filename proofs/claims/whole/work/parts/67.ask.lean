/-! ASK. -/
def askH (t0 t1 : Tx) (c s : Nat) : Nat := cnt (fun v => fit t0 t1 c v && (hiB t0.2 v).testBit s) (nV t0)
def askL (t0 t1 : Tx) (c s : Nat) : Nat := cnt (fun v => fit t0 t1 c v && !(hiB t0.2 v).testBit s) (nV t0)
def askG (t0 t1 : Tx) (c s : Nat) : Nat := if askH t0 t1 c s < askL t0 t1 c s then askL t0 t1 c s else askH t0 t1 c s
def askB (t0 t1 : Tx) (c : Nat) : Nat → Option (Nat × Nat)
  | 0 => none
  | s + 1 => if (saB t1.2 c).testBit s then askB t0 t1 c s else match askB t0 t1 c s with
    | none => some (s, askG t0 t1 c s)
    | some (b, l) => if askG t0 t1 c s < l then some (s, askG t0 t1 c s) else some (b, l)
theorem askB_s (t0 t1 : Tx) (c s : Nat) : askB t0 t1 c (s + 1) = if (saB t1.2 c).testBit s then askB t0 t1 c s else match askB t0 t1 c s with
    | none => some (s, askG t0 t1 c s)
    | some (b, l) => if askG t0 t1 c s < l then some (s, askG t0 t1 c s) else some (b, l) := rfl
def askI (o : Option (Nat × Nat)) : Int32 := match o with
  | none => -1
  | some (b, _) => nI b
def askX (o : Option (Nat × Nat)) : Int32 := match o with
  | none => 9
  | some (_, l) => nI l
def askM (o : Option (Nat × Nat)) : Int32 := match o with
  | none => 0
  | some (_, l) => nI l
theorem cnt_split (p q : Nat → Bool) : ∀ n, cnt (fun v => p v && q v) n + cnt (fun v => p v && !q v) n = cnt p n
  | 0 => rfl
  | n + 1 => by
    have := cnt_split p q n
    unfold cnt
    cases p n <;> cases q n <;> simp <;> omega
theorem and_mod2 (a b : Nat) : (a &&& b) % 2 = if a % 2 = 1 ∧ b % 2 = 1 then 1 else 0 := by
  rw [← Nat.and_one_is_mod, Nat.and_assoc]
  have e : b &&& 1 = b % 2 := Nat.and_one_is_mod b
  rw [e]
  have hb : b % 2 = 0 ∨ b % 2 = 1 := by omega
  rcases hb with q | q
  · rw [q]; simp
  · rw [q, Nat.and_one_is_mod]
    have ha : a % 2 = 0 ∨ a % 2 = 1 := by omega
    rcases ha with k | k <;> simp [k]
theorem and_bits {a b v s : Nat} : (a / 2 ^ v &&& b / 2 ^ s) % 2 = if a.testBit v && b.testBit s then 1 else 0 := by
  rw [and_mod2, Nat.testBit_eq_decide_div_mod_eq, Nat.testBit_eq_decide_div_mod_eq]
  simp
section Ask
variable {z : Sg} {t0 t1 : Tx}
theorem askG_le (d : DOK t0 t1) (c s : Nat) : askG t0 t1 c s ≤ 8 := by
  have h1 := cnt_le (fun v => fit t0 t1 c v && (hiB t0.2 v).testBit s) (nV t0)
  have h2 := cnt_le (fun v => fit t0 t1 c v && !(hiB t0.2 v).testBit s) (nV t0)
  have := d.1
  unfold askG askH askL
  split <;> omega
theorem x_highOf (r : RDx z t0 t1) (d : DOK t0 t1) {c s : Nat} (hs : s < 4) : f_X2_highOf (nI (bO (fit t0 t1 c) (nV t0))) (nI s) z = some (nI (askH t0 t1 c s)) := by
  have d1 := d.1
  have hF : bO (fit t0 t1 c) (nV t0) < 2 ^ 31 := Nat.lt_of_lt_of_le (bO_lt _ _) (Nat.pow_le_pow_right (by decide) (by omega))
  unfold f_X2_highOf
  have := lp_up (fun n b i => f_X2_highOf_lp1 (nI (bO (fit t0 t1 c) (nV t0))) (nI s) z n b i) (nV t0) (fun i => nI (cnt (fun v => fit t0 t1 c v && (hiB t0.2 v).testBit s) i)) (nI (askH t0 t1 c s)) (fun n => by
    show f_X2_highOf_lp1 _ _ z (n + 1) _ _ = _
    rw [f_X2_highOf_lp1, r.1, if_neg Int32.lt_irrefl]; rfl) (fun n i hi => by
    show f_X2_highOf_lp1 _ _ z (n + 1) _ _ = f_X2_highOf_lp1 _ _ z n _ _
    rw [f_X2_highOf_lp1, r.1, if_pos (nI_lt hi (by omega)), ck_pos (ib_nI (show i < 8 by omega) (by decide)), ix_nI (by omega), (r.2.2.1 i hi).1, jshr_nI hF (by omega), jshr_nI (show hiB t0.2 i < 2 ^ 31 by have := hiB_lt t0.2 i; omega) (by omega), nI_and, and1, and_bits, bO_test, nI_add, nI_l1]
    simp only [hi, decide_true, Bool.true_and]
    rfl) 4096 (by omega)
  rw [show f_X2_highOf_lp1 (nI (bO (fit t0 t1 c) (nV t0))) (nI s) z 4096 0 0 = _ from this]
  rfl
theorem x_ask_lp (r : RDx z t0 t1) (d : DOK t0 t1) {c : Nat} (hc : c < nC t1) : f_X7_ask_lp1 (nI c) (nI (bO (fit t0 t1 c) (nV t0))) z 4096 (-1) 9 0 = some (askI (askB t0 t1 c 4), askX (askB t0 t1 c 4)) := by
  have d1 := d.1
  have d2 := d.2.1
  have hF : bO (fit t0 t1 c) (nV t0) < 256 := Nat.lt_of_lt_of_le (bO_lt _ _) (Nat.pow_le_pow_right (n := 2) (by decide) d1)
  exact lp_up (fun n (b : Int32 × Int32) i => f_X7_ask_lp1 (nI c) (nI (bO (fit t0 t1 c) (nV t0))) z n b.1 b.2 i) 4 (fun i => (askI (askB t0 t1 c i), askX (askB t0 t1 c i))) (askI (askB t0 t1 c 4), askX (askB t0 t1 c 4)) (fun n => by
    show f_X7_ask_lp1 _ _ z (n + 1) _ _ _ = _
    rw [f_X7_ask_lp1, if_neg (show ¬ nI 4 < (4 : Int32) from Int32.lt_irrefl)]) (fun n i hi => by
    show f_X7_ask_lp1 _ _ z (n + 1) _ _ _ = f_X7_ask_lp1 _ _ z n _ _ _
    rw [f_X7_ask_lp1, if_pos (show nI i < (4 : Int32) from nI_lt (b := 4) hi (by decide)), ck_pos (ib_nI (show c < 8 by omega) (by decide)), ix_nI (by omega), (r.2.2.2 c hc).1]
    simp only [bit_is (show saB t1.2 c < 2 ^ 31 by have := saB_lt t1.2 c; omega) (show i < 32 by omega), nI_l1]
    rw [askB_s]
    cases hb : (saB t1.2 c).testBit i with
    | true => simp only [if_true]
    | false =>
      simp only [Bool.false_eq_true, if_false]
      rw [x_highOf r d hi, b1_some, x_bitCount hF, b1_some, pc_bO d1]
      have hsp := cnt_split (fit t0 t1 c) (fun v => (hiB t0.2 v).testBit i) (nV t0)
      have e1 : nI (cnt (fit t0 t1 c) (nV t0)) - nI (askH t0 t1 c i) = nI (askL t0 t1 c i) := by
        rw [pk_sub (by unfold askH; omega)]
        congr 1
        unfold askH askL
        omega
      have l1 := cnt_le (fun v => fit t0 t1 c v && (hiB t0.2 v).testBit i) (nV t0)
      have l2 := cnt_le (fun v => fit t0 t1 c v && !(hiB t0.2 v).testBit i) (nV t0)
      have e2 : (if nI (askH t0 t1 c i) < nI (askL t0 t1 c i) then nI (askL t0 t1 c i) else nI (askH t0 t1 c i)) = nI (askG t0 t1 c i) := by
        unfold askG
        by_cases q : askH t0 t1 c i < askL t0 t1 c i
        · rw [if_pos (nI_lt q (by unfold askL; omega)), if_pos q]
        · rw [if_neg (fun k => q ((nI_ltI (by unfold askH; omega) (by unfold askL; omega)).mp k)), if_neg q]
      rw [e1, e2]
      have hg := askG_le d c i
      cases hk : askB t0 t1 c i with
      | none =>
        have : nI (askG t0 t1 c i) < (9 : Int32) := nI_lt (b := 9) (by omega) (by decide)
        simp only [askX, this, if_true, b2_some, askI]
      | some bl =>
        obtain ⟨b, l⟩ := bl
        rw [show askX (some (b, l)) = nI l from rfl, show askI (some (b, l)) = nI b from rfl]
        by_cases hl : l < 2 ^ 31
        · by_cases q : askG t0 t1 c i < l
          · rw [if_pos (nI_lt q hl), b2_some]
            simp only [q, if_true]
            rfl
          · rw [if_neg (fun k => q ((nI_ltI (by omega) hl).mp k)), b2_some]
            simp only [q, if_false]
            rfl
        · exfalso
          have : ∀ n b l, askB t0 t1 c n = some (b, l) → l ≤ 8 := by
            intro n
            induction n with
            | zero => intro b l q; cases q
            | succ n ih =>
              intro b l q
              have hgn := askG_le d c n
              rw [askB_s] at q
              split at q
              · exact ih b l q
              · split at q
                · cases q; omega
                · split at q
                  · cases q; omega
                  · cases q; exact ih _ _ (by assumption)
          have := this i b l hk
          omega) 4096 (by decide)
theorem m_askOf_lp2 (r : RDm z t0 t1) (d : DOK t0 t1) {c s : Nat} (hc : c < nC t1) (hs : s < 4) : f_X8_askOf_lp2 (nI c) (nI s) z 4096 0 0 0 = some (nI (askL t0 t1 c s), nI (askH t0 t1 c s)) := by
  have d1 := d.1
  exact lp_up (fun n (b : Int32 × Int32) i => f_X8_askOf_lp2 (nI c) (nI s) z n b.1 b.2 i) (nV t0) (fun i => (nI (cnt (fun v => fit t0 t1 c v && !(hiB t0.2 v).testBit s) i), nI (cnt (fun v => fit t0 t1 c v && (hiB t0.2 v).testBit s) i))) (nI (askL t0 t1 c s), nI (askH t0 t1 c s)) (fun n => by
    show f_X8_askOf_lp2 _ _ z (n + 1) _ _ _ = _
    rw [f_X8_askOf_lp2, r.1, if_neg Int32.lt_irrefl]; rfl) (fun n i hi => by
    show f_X8_askOf_lp2 _ _ z (n + 1) _ _ _ = f_X8_askOf_lp2 _ _ z n _ _ _
    rw [f_X8_askOf_lp2, r.1, if_pos (nI_lt hi (by omega)), m_fits r d hc hi]
    simp only [b1_some, ck_pos (ib_nI (show i < 9 by omega) (by decide : 9 < 2 ^ 31)), ix_nI (show i < 2 ^ 31 by omega), (r.2.2.1 i hi).1, m_isIn (show hiB t0.2 i < 2 ^ 31 by have := hiB_lt t0.2 i; omega) (show s < 32 by omega), nI_l1]
    show _ = f_X8_askOf_lp2 (nI c) (nI s) z n (nI (cnt (fun v => fit t0 t1 c v && !(hiB t0.2 v).testBit s) i + (if fit t0 t1 c i && !(hiB t0.2 i).testBit s then 1 else 0))) (nI (cnt (fun v => fit t0 t1 c v && (hiB t0.2 v).testBit s) i + (if fit t0 t1 c i && (hiB t0.2 i).testBit s then 1 else 0))) (nI (i + 1))
    rw [← nI_add, ← nI_add]
    cases fit t0 t1 c i <;> cases (hiB t0.2 i).testBit s <;> simp [b1_some, nI_0, show nI 1 = 1 from rfl, nI_succ]) 4096 (by omega)
theorem m_askOf (r : RDm z t0 t1) (d : DOK t0 t1) {c : Nat} (hc : c < nC t1) : f_X8_askOf (nI c) z = some (askI (askB t0 t1 c 4)) := by
  have d1 := d.1
  have d2 := d.2.1
  unfold f_X8_askOf
  have := lp_up (fun n (b : Int32 × Int32) i => f_X8_askOf_lp1 (nI c) z n b.1 b.2 i) 4 (fun i => (askI (askB t0 t1 c i), askM (askB t0 t1 c i))) (askI (askB t0 t1 c 4), askM (askB t0 t1 c 4)) (fun n => by
    show f_X8_askOf_lp1 _ z (n + 1) _ _ _ = _
    rw [f_X8_askOf_lp1, if_neg (show ¬ nI 4 < (4 : Int32) from Int32.lt_irrefl)]) (fun n i hi => by
    show f_X8_askOf_lp1 _ z (n + 1) _ _ _ = f_X8_askOf_lp1 _ z n _ _ _
    rw [f_X8_askOf_lp1, if_pos (show nI i < (4 : Int32) from nI_lt (b := 4) hi (by decide)), m_askOf_lp2 r d hc hi, b2_some]
    have l1 := cnt_le (fun v => fit t0 t1 c v && (hiB t0.2 v).testBit i) (nV t0)
    have l2 := cnt_le (fun v => fit t0 t1 c v && !(hiB t0.2 v).testBit i) (nV t0)
    have hg := askG_le d c i
    have e2 : (if nI (askH t0 t1 c i) < nI (askL t0 t1 c i) then some (nI (askL t0 t1 c i)) else some (nI (askH t0 t1 c i))) = some (nI (askG t0 t1 c i)) := by
      unfold askG
      by_cases q : askH t0 t1 c i < askL t0 t1 c i
      · rw [if_pos (nI_lt q (by unfold askL; omega)), if_pos q]
      · rw [if_neg (fun k => q ((nI_ltI (by unfold askH; omega) (by unfold askL; omega)).mp k)), if_neg q]
    rw [e2, b1_some, ck_pos (ib_nI (show c < 9 by omega) (by decide)), ix_nI (by omega), (r.2.2.2 c hc).1, m_isIn (show saB t1.2 c < 2 ^ 31 by have := saB_lt t1.2 c; omega) (by omega), b1_some, nI_l1]
    rw [askB_s]
    cases hb : (saB t1.2 c).testBit i with
    | true => simp only [if_true, ne10, not_false_eq_true, b1_some, not_true, if_false]
    | false =>
      simp only [Bool.false_eq_true, if_false, not_true]
      have bnd : ∀ n b l, askB t0 t1 c n = some (b, l) → b < n ∧ l ≤ 8 := by
        intro n
        induction n with
        | zero => intro b l q; cases q
        | succ n ih =>
          intro b l q
          have hgn := askG_le d c n
          rw [askB_s] at q
          split at q
          · have := ih b l q; omega
          · split at q
            · cases q; omega
            · split at q
              · cases q; omega
              · cases q
                have := ih b l (by assumption)
                omega
      cases hk : askB t0 t1 c i with
      | none => simp only [askI, if_true, b1_some, ne10, not_false_eq_true, askM]
      | some bl =>
        obtain ⟨b, l⟩ := bl
        have hbl := bnd i b l hk
        rw [show askI (some (b, l)) = nI b from rfl, show askM (some (b, l)) = nI l from rfl, if_neg (nI_ne_m1 (show b < 2 ^ 31 by omega))]
        by_cases q : askG t0 t1 c i < l
        · rw [if_pos (nI_lt q (by omega))]
          simp only [b1_some, ne10, not_false_eq_true, if_true, q]
          rfl
        · rw [if_neg (fun k => q ((nI_ltI (by omega) (by omega)).mp k))]
          simp only [b1_some, not_true, if_false, q]
          rfl) 4096 (by decide)
  rw [show f_X8_askOf_lp1 (nI c) z 4096 (-1) 0 0 = _ from this]
  rfl
end Ask
def sAsk (c : Int32) (a : Ab) : Int32 := if bad c (nC (aT1 a)) then -2 else askI (askB (aT0 a) (aT1 a) (ix c) 4)
section AskC
variable {PT : VT → KT → Prop} {PR : (Nat → Int64) → Tx → Tx → Prop}
theorem X_ask {z : Sg} {a : Ab} (h : AXg PT PR z a) (c : Int32) : f_X7_ask c z = some (sAsk c a) := by
  unfold f_X7_ask sAsk
  have r := h.1.rd
  have d := h.1.dok
  have d2 := d.2.1
  rw [x_noClaimant r d]
  rcases arg_cases c (nC (aT1 a)) (by omega) with hv | ⟨c, hv, rfl⟩
  · simp [b1_some, bad, hv]
  · have n1 := not_bad hv (by omega)
    rw [if_neg n1, if_neg n1, b1_some, if_neg (by decide), x_virtuesFittedBy r d hv, b1_some, x_ask_lp r d hv, ix_nI (by omega)]
    rfl
theorem M_ask {z : Sg} {a : Ab} (h : AM z a) (c : Int32) : ∃ z', f_X8_ask c z = some (sAsk c a, z') ∧ AM z' a := by
  unfold f_X8_ask sAsk
  have d := h.dok
  have d2 := d.2.1
  obtain ⟨z', e, h', r⟩ := m_isClaimant h c
  refine ⟨z', ?_, h'⟩
  rw [e, b2_some]
  rcases arg_cases c (nC (aT1 a)) (by omega) with hv | ⟨c, hv, rfl⟩
  · simp [b2_some, bad, hv]
  · have n1 := not_bad hv (by omega)
    rw [if_neg n1, if_neg n1, if_pos ne10, m_askOf r d hv, ix_nI (by omega)]
    rfl
end AskC
