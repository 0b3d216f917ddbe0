/-! THE JUDGEMENT G and its rows: one a kind of instruction. -/
def wl (sp : Bool) (w : WC) (z : Sg) : va_W := (List.range (NN sp)).map (fun t => (w.2.1 t, entK w z t (kd sp t)))
theorem wl_at {sp : Bool} {w : WC} {z : Sg} {t : Nat} {K : Kd} (h : kd sp t = K) (hK : K.1 ≠ 9) : (wl sp w z)[t]? = some (w.2.1 t, entK w z t K) := by
  have hlt : t < NN sp := kd_lt (by rw [h]; exact hK)
  unfold wl
  rw [List.getElem?_map, List.getElem?_range hlt, ← h]
  rfl
theorem wl_set {sp : Bool} {w : WC} {z z' : Sg} {t : Nat} {E : va_E} (hE : entK w z' t (kd sp t) = E) (ho : ∀ j, j ≠ t → z'.1 j = z.1 j ∧ z'.2 j = z.2 j) : (wl sp w z).set t (w.2.1 t, E) = wl sp w z' := by
  apply List.ext_getElem?
  intro j
  rw [List.getElem?_set]
  by_cases hj : t = j
  · subst hj
    rw [if_pos rfl]
    by_cases hl : t < NN sp
    · have h1 : t < (wl sp w z).length := by simp [wl, hl]
      rw [if_pos h1]
      unfold wl
      rw [List.getElem?_map, List.getElem?_range hl, ← hE]
      rfl
    · have h1 : ¬ t < (wl sp w z).length := by simp [wl, hl]
      rw [if_neg h1]
      unfold wl
      rw [List.getElem?_eq_none (by simp; omega)]
  · rw [if_neg hj]
    unfold wl
    by_cases hl : j < NN sp
    · rw [List.getElem?_map, List.getElem?_map, List.getElem?_range hl]
      obtain ⟨h1, h2⟩ := ho j (fun q => hj q.symm)
      show some (_, entK w z j (kd sp j)) = some (_, entK w z' j (kd sp j))
      rw [entK_congr w z z' j _ h1 h2]
    · rw [List.getElem?_eq_none (by simp; omega), List.getElem?_eq_none (by simp; omega)]
def AW (sp : Bool) (w : WC) : Nat → Prop := fun q => ∃ t, t < NN sp ∧ q = w.2.1 t
def InjW (sp : Bool) (w : WC) : Prop := ∀ i j, i < NN sp → j < NN sp → w.2.1 i = w.2.1 j → i = j
def tysW (w : WC) : List (ClassId × FieldType) := [(w.2.2.1, .int), (w.2.2.2.1, .boolean), (w.2.2.2.2.1, .long), (w.2.2.2.2.2, .object "FoundVirtues$Sheet")]
theorem wl_D {sp : Bool} {w : WC} (h : InjW sp w) (z : Sg) : va_D (AW sp w) (wl sp w z) := by
  have key : ∀ (k : Nat) (q : Nat × va_E), (wl sp w z)[k]? = some q → k < NN sp ∧ q.1 = w.2.1 k := by
    intro k q hk
    unfold wl at hk
    rw [List.getElem?_map] at hk
    by_cases hl : k < NN sp
    · rw [List.getElem?_range hl] at hk
      cases hk
      exact ⟨hl, rfl⟩
    · rw [List.getElem?_eq_none (by simp; omega)] at hk
      cases hk
  refine ⟨fun i j p q hi hj hpq => ?_, fun k q hk => ⟨k, key k q hk⟩⟩
  obtain ⟨h1, h2⟩ := key i p hi
  obtain ⟨h3, h4⟩ := key j q hj
  exact h i j h1 h3 (by rw [← h2, ← h4, hpq])
/-- the world's tables at a state -/
def KS (sp : Bool) (w : WC) (U : State) : Prop := va_K w.1 vwCl (tysW w) U ∧ InjW sp w ∧ ∀ q ∈ nestW, va_Nw q U
/-- the world at a state -/
def WS (sp : Bool) (w : WC) (z : Sg) (U : State) : Prop := va_P w.1 vwCl (wl sp w z) U.heap ∧ KS sp w U
theorem KS.call {sp : Bool} {w : WC} {U : State} {g : JFrame} {mk : MethodId} {a : Array Value} (h : KS sp w U) : KS sp w (U.calling g mk a) :=
  ⟨va_K.moved (u := U) (U := U.calling g mk a) (Vm.Alike.refl U.vm) h.1, h.2.1, fun q hq => va_tabs (u := U) (by
    revert q; unfold nestW; simp only [List.forall_mem_cons]; exact ⟨rfl, rfl, rfl, rfl, rfl, rfl, rfl, rfl, rfl, rfl, rfl, fun _ h => by cases h⟩) rfl (h.2.2 q hq)⟩
theorem KS.warm {sp : Bool} {w : WC} {s U : State} (hW : s.WarmedH U.vm) (h : KS sp w s) : KS sp w U := by
  refine ⟨va_K.moved hW.alike h.1, h.2.1, ?_⟩
  have h3 := h.2.2
  revert h3
  unfold nestW
  simp only [List.forall_mem_cons]
  rintro ⟨h1, h2, h3, h4, h5, h6, h7, h8, h9, h10, h11, -⟩
  refine ⟨?_, ?_, ?_, ?_, ?_, ?_, ?_, ?_, ?_, ?_, ?_, fun _ h => by cases h⟩ <;> first | exact va_Nw.warmF hW (by assumption) | exact va_Nw.warmM hW (by assumption)
-- values of the world: a reference is a cell's number
def tv (ad : Nat → Nat) (v : Value) : Value := match v with
  | .ref t => .ref (ad t)
  | x => x
theorem tv_cat (ad : Nat → Nat) (v : Value) : (tv ad v).category = v.category := by cases v <;> rfl
def nthO : List (Option Value) → Nat → Option Value
  | [], _ => none
  | a :: _, 0 => a
  | _ :: l, n + 1 => nthO l n
def kilL (a : Option Value) : Option Value := match a with
  | some (.long _) => none
  | some (.double _) => none
  | x => x
def setL : List (Option Value) → Nat → Value → List (Option Value)
  | [], _, _ => []
  | _ :: l, 0, v => some v :: l
  | a :: l, 1, v => kilL a :: setL l 0 v
  | a :: l, n + 2, v => a :: setL l (n + 1) v
def nonL : List (Option Value) → List (Option Value)
  | [] => []
  | _ :: l => none :: l
def setJ : List (Option Value) → Nat → Value → List (Option Value)
  | [], _, _ => []
  | _ :: l, 0, v => some v :: nonL l
  | a :: l, 1, v => kilL a :: setJ l 0 v
  | a :: l, n + 2, v => a :: setJ l (n + 1) v
def asc (ad : Nat → Nat) : Nat → List (Option Value) → List (Nat × Value)
  | _, [] => []
  | k, none :: l => asc ad (k + 1) l
  | k, some v :: l => (k, tv ad v) :: asc ad (k + 1) l
theorem asc_of (ad : Nat → Nat) : ∀ (l : List (Option Value)) (k : Nat) (q : Nat × Value), q ∈ asc ad k l → ∃ i v, nthO l i = some v ∧ q = (k + i, tv ad v)
  | [], _, q, h => by cases h
  | none :: l, k, q, h => by
    obtain ⟨i, v, h1, h2⟩ := asc_of ad l (k + 1) q h
    exact ⟨i + 1, v, h1, by rw [h2]; congr 1; omega⟩
  | some w :: l, k, q, h => by
    rcases List.mem_cons.mp h with h | h
    · exact ⟨0, w, rfl, h⟩
    · obtain ⟨i, v, h1, h2⟩ := asc_of ad l (k + 1) q h
      exact ⟨i + 1, v, h1, by rw [h2]; congr 1; omega⟩
theorem asc_in (ad : Nat → Nat) : ∀ (l : List (Option Value)) (k i : Nat) (v : Value), nthO l i = some v → (k + i, tv ad v) ∈ asc ad k l
  | [], _, i, v, h => by cases h
  | none :: l, k, 0, v, h => by cases h
  | none :: l, k, i + 1, v, h => by
    have := asc_in ad l (k + 1) i v h
    rw [show k + (i + 1) = k + 1 + i by omega]
    exact this
  | some w :: l, k, 0, v, h => by
    cases h
    exact List.mem_cons_self
  | some w :: l, k, i + 1, v, h => by
    have := asc_in ad l (k + 1) i v h
    rw [show k + (i + 1) = k + 1 + i by omega]
    exact List.mem_cons_of_mem _ this
theorem kilL_of {a : Option Value} {v : Value} (h : kilL a = some v) : a = some v ∧ ¬ v.category = 2 := by
  cases a with
  | none => cases h
  | some b => cases b <;> first | (cases h; done) | (cases h; exact ⟨rfl, by simp [Value.category]⟩)
theorem setL_of : ∀ (l : List (Option Value)) (i : Nat) (x : Value) (j : Nat) (v : Value), nthO (setL l i x) j = some v → (j = i ∧ v = x) ∨ (j ≠ i ∧ nthO l j = some v ∧ ¬ (j + 1 = i ∧ v.category = 2))
  | [], _, _, j, v, h => by cases h
  | a :: l, 0, x, 0, v, h => by cases h; exact Or.inl ⟨rfl, rfl⟩
  | a :: l, 0, x, j + 1, v, h => Or.inr ⟨by omega, h, by omega⟩
  | a :: l, 1, x, 0, v, h => by
    obtain ⟨h1, h2⟩ := kilL_of h
    exact Or.inr ⟨by omega, h1, fun q => h2 q.2⟩
  | a :: l, 1, x, j + 1, v, h => by
    rcases setL_of l 0 x j v h with ⟨h1, h2⟩ | ⟨h1, h2, h3⟩
    · exact Or.inl ⟨by omega, h2⟩
    · exact Or.inr ⟨by omega, h2, by omega⟩
  | a :: l, n + 2, x, 0, v, h => Or.inr ⟨by omega, h, by omega⟩
  | a :: l, n + 2, x, j + 1, v, h => by
    rcases setL_of l (n + 1) x j v h with ⟨h1, h2⟩ | ⟨h1, h2, h3⟩
    · exact Or.inl ⟨by omega, h2⟩
    · exact Or.inr ⟨by omega, h2, fun q => h3 ⟨by omega, q.2⟩⟩
theorem setJ_of : ∀ (l : List (Option Value)) (i : Nat) (x : Value) (j : Nat) (v : Value), nthO (setJ l i x) j = some v → (j = i ∧ v = x) ∨ (j ≠ i ∧ j ≠ i + 1 ∧ nthO l j = some v ∧ ¬ (j + 1 = i ∧ v.category = 2))
  | [], _, _, j, v, h => by cases h
  | a :: l, 0, x, 0, v, h => by cases h; exact Or.inl ⟨rfl, rfl⟩
  | [a], 0, x, j + 1, v, h => by cases h
  | a :: b :: l, 0, x, 1, v, h => by cases h
  | a :: b :: l, 0, x, j + 2, v, h => Or.inr ⟨by omega, by omega, h, by omega⟩
  | a :: l, 1, x, 0, v, h => by
    obtain ⟨h1, h2⟩ := kilL_of h
    exact Or.inr ⟨by omega, by omega, h1, fun q => h2 q.2⟩
  | a :: l, 1, x, j + 1, v, h => by
    rcases setJ_of l 0 x j v h with ⟨h1, h2⟩ | ⟨h1, h0, h2, h3⟩
    · exact Or.inl ⟨by omega, h2⟩
    · exact Or.inr ⟨by omega, by omega, h2, by omega⟩
  | a :: l, n + 2, x, 0, v, h => Or.inr ⟨by omega, by omega, h, by omega⟩
  | a :: l, n + 2, x, j + 1, v, h => by
    rcases setJ_of l (n + 1) x j v h with ⟨h1, h2⟩ | ⟨h1, h0, h2, h3⟩
    · exact Or.inl ⟨by omega, h2⟩
    · exact Or.inr ⟨by omega, by omega, h2, fun q => h3 ⟨by omega, q.2⟩⟩
theorem lvR_at {ad : Nat → Nat} {ls : Array Slot} {nL : Nat} {lv : List (Option Value)} (h : lv_has ls nL (asc ad 0 lv)) {i : Nat} {v : Value} (hi : nthO lv i = some v) : ls[i]? = some (.val (tv ad v)) := by
  have := h.2.2 _ (asc_in ad lv 0 i v hi)
  simpa using this
theorem lvR_set {ad : Nat → Nat} {ls : Array Slot} {nL i : Nat} {lv lv' : List (Option Value)} {v : Value} (h : lv_has ls nL ((i, tv ad v) :: (asc ad 0 lv).filter (fun q => !(q.1 == i) && !(q.1 + 1 == i && q.2.category == 2)))) (e : setL lv i v = lv') : lv_has ls nL (asc ad 0 lv') := by
  refine ⟨h.1, h.2.1, fun q hq => h.2.2 q ?_⟩
  obtain ⟨j, x, h1, h2⟩ := asc_of ad lv' 0 q hq
  rw [← e] at h1
  rcases setL_of lv i v j x h1 with ⟨h3, h4⟩ | ⟨h3, h4, h5⟩
  · subst h3; subst h4
    rw [h2]
    simp
  · refine List.mem_cons_of_mem _ (List.mem_filter.mpr ⟨by rw [h2]; exact asc_in ad lv 0 j x h4, ?_⟩)
    rw [h2]
    simp only [Nat.zero_add, tv_cat]
    by_cases h6 : j + 1 = i
    · have : ¬ x.category = 2 := fun q => h5 ⟨h6, q⟩
      simp [h3, this]
    · simp [h3, h6]
theorem lvR_setJ {ad : Nat → Nat} {ls : Array Slot} {nL i : Nat} {lv lv' : List (Option Value)} {v : Value} (h : lv_has ls nL ((i, tv ad v) :: (asc ad 0 lv).filter (fun q => !(q.1 == i) && (!(q.1 == i + 1) && !(q.1 + 1 == i && q.2.category == 2))))) (e : setJ lv i v = lv') : lv_has ls nL (asc ad 0 lv') := by
  refine ⟨h.1, h.2.1, fun q hq => h.2.2 q ?_⟩
  obtain ⟨j, x, h1, h2⟩ := asc_of ad lv' 0 q hq
  rw [← e] at h1
  rcases setJ_of lv i v j x h1 with ⟨h3, h4⟩ | ⟨h3, h0, h4, h5⟩
  · subst h3; subst h4
    rw [h2]
    simp
  · refine List.mem_cons_of_mem _ (List.mem_filter.mpr ⟨by rw [h2]; exact asc_in ad lv 0 j x h4, ?_⟩)
    rw [h2]
    simp only [Nat.zero_add, tv_cat]
    by_cases h6 : j + 1 = i
    · have : ¬ x.category = 2 := fun q => h5 ⟨h6, q⟩
      simp [h3, h0, this]
    · simp [h3, h0, h6]
def maskL : List Bool → List (Option Value) → List (Option Value)
  | true :: b, a :: l => a :: maskL b l
  | false :: b, _ :: l => none :: maskL b l
  | _, _ => []
theorem maskL_of : ∀ (b : List Bool) (l : List (Option Value)) (i : Nat) (v : Value), nthO (maskL b l) i = some v → nthO l i = some v
  | [], _, _, _, h => by simp [maskL, nthO] at h
  | true :: b, [], _, _, h => by simp [maskL, nthO] at h
  | false :: b, [], _, _, h => by simp [maskL, nthO] at h
  | true :: b, a :: l, 0, v, h => h
  | true :: b, a :: l, i + 1, v, h => maskL_of b l i v h
  | false :: b, a :: l, 0, v, h => by cases h
  | false :: b, a :: l, i + 1, v, h => maskL_of b l i v h
theorem lvR_mask {ad : Nat → Nat} {ls : Array Slot} {nL : Nat} {lv lv' : List (Option Value)} (b : List Bool) (h : lv_has ls nL (asc ad 0 lv)) (e : maskL b lv = lv') : lv_has ls nL (asc ad 0 lv') := by
  refine ⟨h.1, h.2.1, fun q hq => h.2.2 q ?_⟩
  obtain ⟨j, x, h1, h2⟩ := asc_of ad lv' 0 q hq
  rw [← e] at h1
  rw [h2]
  exact asc_in ad lv 0 j x (maskL_of b lv j x h1)
/-- a method: its class, name, code, locals, answer, depth of calls -/
abbrev MI : Type := String × MethodName × ByteArray × Nat × Option FieldType × Nat
/-- where the machine is -/
abbrev MC : Type := (Program × Launch × Env × State) × (MethodId × Array Value × List Frame × Method × Code) × WC
def rmv (d : Nat) : Room := { frames := d, cells := 0, slots := 0, locals := 38 * d }
def QZ (sp : Bool) (w : WC) (Z : Option Value × Sg) : Array Value → State → Outcome → State → Prop := fun _ st oc t => oc = .returned (Z.1.map (tv w.2.1)) ∧ WS sp w Z.2 t ∧ va_F (AW sp w) st t
def OK (sp : Bool) (Y : MI) (M : MC) : Prop :=
  M.1.1.tables.exec = Jvm.exec ∧ M.2.1.2.2.2.2.code = Y.2.2.1 ∧ M.2.1.2.2.2.2.maxLocals = Y.2.2.2.1 ∧ M.1.2.2.2.vm.findClass Y.1 = some M.2.1.1.cls ∧ (∀ q ∈ TB, q.before M.2.1.2.1 M.1.2.2.2 = true) ∧ M.2.1.2.2.2.1.sig.returnType = Y.2.2.2.2.1 ∧ M.2.1.2.2.2.1.locks = false ∧ KS sp M.2.2 M.1.2.2.2
def G (sp : Bool) (Y : MI) (M : MC) (Z : Option Value × Sg) (pc : Nat) (lv : List (Option Value)) (st : List Value) (z : Sg) : Prop :=
  ∀ (H : Heap) (locs : List Loc) (ls : Array Slot), va_P M.2.2.1 vwCl (wl sp M.2.2 z) H → va_S (AW sp M.2.2) M.1.2.2.2.heap H locs → lv_has ls Y.2.2.2.1 (asc M.2.2.2.1 0 lv) →
    W M.1.1 M.1.2.1 M.1.2.2.1 (rmv Y.2.2.2.2.2) M.1.2.2.2 M.2.1.1 M.2.1.2.1 M.2.1.2.2.1 M.2.1.2.2.2.1 M.2.1.2.2.2.2 H locs 0 0 (MQ M.2.1.2.2.1 (QZ sp M.2.2 Z) M.2.1.2.1 M.1.2.2.2 0 0 (AW sp M.2.2)) (F0 M.2.1.1 pc ls (st.map (tv M.2.2.2.1)))
/-- a method's contract -/
def CT (sp : Bool) (l : Launch) (Y : MI) (w : WC) (av : List Value) (z : Sg) (r : Option Value) (z' : Sg) : Prop :=
  Met l Y.2.1 (.code Y.2.1 Y.2.2.1 Y.2.2.2.1 Y.2.2.2.2.1 :: TB) (rmv Y.2.2.2.2.2) (va_Pc (av.map (tv w.2.1)) (WS sp w z)) (QZ sp w (r, z')) 0 0 (AW sp w)
/-- the locals at the entry -/
def entL : List Value → List (Option Value)
  | [] => []
  | .long x :: l => some (.long x) :: none :: entL l
  | .double x :: l => some (.double x) :: none :: entL l
  | v :: l => some v :: entL l
theorem entL_ok (ad : Nat → Nat) : ∀ (av : List Value) (k : Nat), asc ad k (entL av) = lv_args k (av.map (tv ad))
  | [], _ => rfl
  | v :: l, k => by
    cases v <;> simp [entL, asc, lv_args, tv, Value.category, entL_ok ad l, Nat.add_assoc]
def padL (lv : List (Option Value)) : Nat → List (Option Value)
  | 0 => lv
  | n + 1 => padL (lv ++ [none]) n
theorem asc_app (ad : Nat → Nat) : ∀ (l : List (Option Value)) (k : Nat), asc ad k (l ++ [none]) = asc ad k l
  | [], _ => rfl
  | none :: l, k => by simp [asc, asc_app ad l]
  | some v :: l, k => by simp [asc, asc_app ad l]
theorem asc_pad (ad : Nat → Nat) (k : Nat) : ∀ (n : Nat) (l : List (Option Value)), asc ad k (padL l n) = asc ad k l
  | 0, _ => rfl
  | n + 1, l => by rw [padL, asc_pad ad k n, asc_app]
theorem lg_sl_len (ad : Nat → Nat) (av : List Value) : (lg_sl (av.map (tv ad))).length = (lg_sl av).length := by
  induction av with
  | nil => rfl
  | cons v l ih => cases v <;> simp_all [lg_sl, tv, Value.category]
theorem ct_of {sp : Bool} {l : Launch} {Y : MI} {w : WC} {av : List Value} {z : Sg} {r : Option Value} {z' : Sg} (n : Nat) {lv : List (Option Value)} (hn : plainName Y.2.1.cls = true) (ho : Y.1 = Y.2.1.cls) (hl : (lg_sl av).length ≤ Y.2.2.2.1) (he : padL (entL av) n = lv)
    (body : ∀ M : MC, M.1.2.1 = l → M.2.2 = w → OK sp Y M → G sp Y M (r, z') 0 lv [] z) : CT sp l Y w av z r z' := by
  refine Met.ofW (cc := Y.2.2.1) (maxL := Y.2.2.2.1) (ret := Y.2.2.2.2.1) hn rfl ?_
  intro p e s m args below meth c s₁ B hml hv
  obtain ⟨rfl, hP, hK⟩ := hv
  have hts := atoms_spec (ws := Cond.code Y.2.1 Y.2.2.1 Y.2.2.2.1 Y.2.2.2.2.1 :: TB) B.pre
  have hown : s.vm.findClass Y.1 = some m.cls := by rw [ho]; exact findClass_of_methodNamed B.named
  have h0 := lv_entry (av.map (tv w.2.1)) (n := Y.2.2.2.1) (by rw [lg_sl_len]; exact hl)
  rw [lg_entry_eq]
  rw [← entL_ok, ← asc_pad w.2.1 0 n, he] at h0
  exact body ((p, l, e, s), (m, (av.map (tv w.2.1)).toArray, below, meth, c), w) rfl rfl ⟨B.exec, B.bytes, hml, hown, fun q hq => hts q (List.mem_cons_of_mem _ hq), B.returns, B.notSynchronized, hK⟩ s.heap [] _ hP va_S.rf h0
