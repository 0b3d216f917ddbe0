/-! MAKING: a judgement for constructors; the world is a list of cells that grows. -/
abbrev BC : Type := va_G × ClassId × ClassId × ClassId × ClassId
def tysB (w : BC) : List (ClassId × FieldType) := [(w.2.1, .int), (w.2.2.1, .boolean), (w.2.2.2.1, .long), (w.2.2.2.2, .object "FoundVirtues$Sheet")]
def KB (w : BC) (U : State) : Prop := va_K w.1 vwCl (tysB w) U ∧ va_AO "FoundVirtues$Sheet" U ∧ ∀ q ∈ nestW, va_Nw q U
theorem nest_call {U : State} {g : JFrame} {mk : MethodId} {a : Array Value} (h : ∀ q ∈ nestW, va_Nw q U) : ∀ q ∈ nestW, va_Nw q (U.calling g mk a) := fun q hq => va_tabs (u := U) (by
    revert q; unfold nestW; simp only [List.forall_mem_cons]; exact ⟨rfl, rfl, rfl, rfl, rfl, rfl, rfl, rfl, rfl, rfl, rfl, fun _ h => by cases h⟩) rfl (h q hq)
theorem nest_warm {s U : State} (hW : s.WarmedH U.vm) (h : ∀ q ∈ nestW, va_Nw q s) : ∀ q ∈ nestW, va_Nw q U := by
  revert h
  unfold nestW
  simp only [List.forall_mem_cons]
  rintro ⟨h1, h2, h3, h4, h5, h6, h7, h8, h9, h10, h11, -⟩
  refine ⟨?_, ?_, ?_, ?_, ?_, ?_, ?_, ?_, ?_, ?_, ?_, fun _ h => by cases h⟩ <;> first | exact va_Nw.warmF hW (by assumption) | exact va_Nw.warmM hW (by assumption)
theorem KB.call {w : BC} {U : State} {g : JFrame} {mk : MethodId} {a : Array Value} (h : KB w U) : KB w (U.calling g mk a) :=
  ⟨va_K.moved (u := U) (U := U.calling g mk a) (Vm.Alike.refl U.vm) h.1, va_AO.moved (u := U) (U := U.calling g mk a) (Vm.Alike.refl U.vm) h.2.1, nest_call h.2.2⟩
theorem KB.warm {w : BC} {s U : State} (hW : s.WarmedH U.vm) (h : KB w s) : KB w U := ⟨va_K.moved hW.alike h.1, va_AO.moved hW.alike h.2.1, nest_warm hW h.2.2⟩
abbrev MB : Type := (Program × Launch × Env × State) × (MethodId × Array Value × List Frame × Method × Code) × BC × Nat × Room
def AB (b : Nat) : Nat → Prop := fun q => b ≤ q
def OB (Y : MI) (M : MB) : Prop :=
  M.1.1.tables.exec = Jvm.exec ∧ M.2.1.2.2.2.2.code = Y.2.2.1 ∧ M.2.1.2.2.2.2.maxLocals = Y.2.2.2.1 ∧ M.1.2.2.2.vm.findClass Y.1 = some M.2.1.1.cls ∧ (∀ q ∈ TB, q.before M.2.1.2.1 M.1.2.2.2 = true) ∧ M.2.1.2.2.2.1.locks = false ∧ KB M.2.2.1 M.1.2.2.2 ∧ M.2.2.2.1 ≤ M.1.2.2.2.heap.size
def GB (Y : MI) (M : MB) (Q : State → Prop) (cs sl : Nat) (pc : Nat) (lv : List (Option Value)) (st : List Value) (ws : va_W) : Prop :=
  ∀ (H : Heap) (locs : List Loc) (ls : Array Slot), va_P M.2.2.1.1 vwCl ws H → va_D (AB M.2.2.2.1) ws → va_S (AB M.2.2.2.1) M.1.2.2.2.heap H locs → lv_has ls Y.2.2.2.1 (asc id 0 lv) →
    W M.1.1 M.1.2.1 M.1.2.2.1 M.2.2.2.2 M.1.2.2.2 M.2.1.1 M.2.1.2.1 M.2.1.2.2.1 M.2.1.2.2.2.1 M.2.1.2.2.2.2 H locs cs sl Q (F0 M.2.1.1 pc ls st)
/-- the world so far, at a state -/
def BS (w : BC) (b : Nat) (ws : va_W) (U : State) : Prop := b ≤ U.heap.size ∧ va_P w.1 vwCl ws U.heap ∧ va_D (AB b) ws ∧ KB w U
def QC (w : BC) (b : Nat) (P : va_W → Prop) : Array Value → State → Outcome → State → Prop := fun _ st oc t => oc = .returned none ∧ (∃ ws', P ws' ∧ BS w b ws' t) ∧ va_F (AB b) st t
/-- a constructor's contract: from the cells ws to some with P -/
def CB (l : Launch) (Y : MI) (R : Room) (w : BC) (b : Nat) (av : List Value) (ws : va_W) (P : va_W → Prop) : Prop :=
  Met l Y.2.1 (.code Y.2.1 Y.2.2.1 Y.2.2.2.1 none :: TB) R (va_Pc av (BS w b ws)) (QC w b P) R.cells R.slots (AB b)
theorem tv_id (v : Value) : tv id v = v := by cases v <;> rfl
theorem map_tv_id (av : List Value) : av.map (tv id) = av := by
  rw [show tv id = id from funext tv_id, List.map_id]
theorem cb_of {l : Launch} {Y : MI} {R : Room} {w : BC} {b : Nat} {av : List Value} {ws : va_W} {P : va_W → Prop} (n : Nat) {lv : List (Option Value)} (hn : plainName Y.2.1.cls = true) (ho : Y.1 = Y.2.1.cls) (hy : Y.2.1.name = "<init>") (hl : (lg_sl av).length ≤ Y.2.2.2.1) (he : padL (entL av) n = lv)
    (body : ∀ M : MB, M.1.2.1 = l → M.2.2 = (w, b, R) → OB Y M → M.2.1.2.2.2.1.sig.returnType = none → M.2.1.2.2.2.1.name = "<init>" → GB Y M (MQ M.2.1.2.2.1 (QC w b P) M.2.1.2.1 M.1.2.2.2 R.cells R.slots (AB b)) 0 0 0 lv [] ws) : CB l Y R w b av ws P := by
  refine Met.ofW (cc := Y.2.2.1) (maxL := Y.2.2.2.1) (ret := none) hn rfl ?_
  intro p e s m args below meth c s₁ B hml hv
  obtain ⟨rfl, hsz, hP, hD, hK⟩ := hv
  have hts := atoms_spec (ws := Cond.code Y.2.1 Y.2.2.1 Y.2.2.2.1 none :: TB) B.pre
  have hown : s.vm.findClass Y.1 = some m.cls := by rw [ho]; exact findClass_of_methodNamed B.named
  have hnm : meth.name = "<init>" := by rw [← hy]; exact (name_of_methodNamed B.named B.method).1
  have h0 := lv_entry av (n := Y.2.2.2.1) hl
  rw [lg_entry_eq]
  rw [← map_tv_id av, ← entL_ok, ← asc_pad id 0 n, he, map_tv_id] at h0
  exact body ((p, l, e, s), (m, av.toArray, below, meth, c), w, b, R) rfl rfl ⟨B.exec, B.bytes, hml, hown, fun q hq => hts q (List.mem_cons_of_mem _ hq), B.notSynchronized, hK, hsz⟩ B.returns hnm s.heap [] _ hP hD va_S.rf h0
section RowsB
variable {Y : MI} {M : MB} {Q : State → Prop} {cs sl pc : Nat} {lv : List (Option Value)} {st : List Value} {ws : va_W}
theorem gb_aload_n (hE : OB Y M) {k : Fin 4} {x : Nat} (hdg : decode Y.2.2.1 pc = .ok (.aload_n k, 1)) (hi : nthO lv k = some (.ref x)) (kk : GB Y M Q cs sl (pc + 1) lv (.ref x :: st) ws) : GB Y M Q cs sl pc lv st ws := fun H locs ls hP hD hS hl => lv_aload_n hE.1 hE.2.1 hdg rfl (lvR_at hl hi) (kk H locs ls hP hD hS hl)
theorem gb_iload_n (hE : OB Y M) {k : Fin 4} {x : Int32} (hdg : decode Y.2.2.1 pc = .ok (.iload_n k, 1)) (hi : nthO lv k = some (.int x)) (kk : GB Y M Q cs sl (pc + 1) lv (.int x :: st) ws) : GB Y M Q cs sl pc lv st ws := fun H locs ls hP hD hS hl => lv_iload_n hE.1 hE.2.1 hdg rfl (lvR_at hl hi) (kk H locs ls hP hD hS hl)
theorem gb_iconst (hE : OB Y M) {n : Int} (v : Int32) (hdg : decode Y.2.2.1 pc = .ok (.iconst n, 1)) (hv : Int32.ofInt n = v) (k : GB Y M Q cs sl (pc + 1) lv (.int v :: st) ws) : GB Y M Q cs sl pc lv st ws := fun H locs ls hP hD hS hl => lv_iconst hE.1 hE.2.1 hdg hv (k H locs ls hP hD hS hl)
theorem gb_bipush (hE : OB Y M) {n : Int} (v : Int32) (hdg : decode Y.2.2.1 pc = .ok (.bipush n, 2)) (hv : (Int8.ofInt n).toInt32 = v) (k : GB Y M Q cs sl (pc + 2) lv (.int v :: st) ws) : GB Y M Q cs sl pc lv st ws := fun H locs ls hP hD hS hl => lv_bipush hE.1 hE.2.1 hdg hv (k H locs ls hP hD hS hl)
theorem gb_sipush (hE : OB Y M) {n : Int} (v : Int32) (hdg : decode Y.2.2.1 pc = .ok (.sipush n, 3)) (hv : (Int16.ofInt n).toInt32 = v) (k : GB Y M Q cs sl (pc + 3) lv (.int v :: st) ws) : GB Y M Q cs sl pc lv st ws := fun H locs ls hP hD hS hl => lv_sipush hE.1 hE.2.1 hdg hv (k H locs ls hP hD hS hl)
theorem gb_dup (hE : OB Y M) {a : Value} (hdg : decode Y.2.2.1 pc = .ok (.dup, 1)) (ha : a.category = 1) (k : GB Y M Q cs sl (pc + 1) lv (a :: a :: st) ws) : GB Y M Q cs sl pc lv (a :: st) ws := fun H locs ls hP hD hS hl => lv_dup hE.1 hE.2.1 hdg ha (k H locs ls hP hD hS hl)
theorem gb_istore_n (lv' : List (Option Value)) (hE : OB Y M) {k : Fin 4} {x : Int32} (hdg : decode Y.2.2.1 pc = .ok (.istore_n k, 1)) (hn : (k : Nat) < Y.2.2.2.1) (e : setL lv k (.int x) = lv') (kk : GB Y M Q cs sl (pc + 1) lv' st ws) : GB Y M Q cs sl pc lv (.int x :: st) ws := fun H locs ls hP hD hS hl => lv_istore_n hE.1 hE.2.1 hdg rfl hl hn rfl (fun ls' hl' => kk H locs ls' hP hD hS (lvR_set (v := .int x) hl' e))
theorem gb_astore_n (lv' : List (Option Value)) (hE : OB Y M) {k : Fin 4} {x : Nat} (hdg : decode Y.2.2.1 pc = .ok (.astore_n k, 1)) (hn : (k : Nat) < Y.2.2.2.1) (e : setL lv k (.ref x) = lv') (kk : GB Y M Q cs sl (pc + 1) lv' st ws) : GB Y M Q cs sl pc lv (.ref x :: st) ws := fun H locs ls hP hD hS hl => lv_astore_n hE.1 hE.2.1 hdg rfl hl hn rfl (fun ls' hl' => kk H locs ls' hP hD hS (lvR_set (v := .ref x) hl' e))
theorem gb_iinc (lv' : List (Option Value)) (hE : OB Y M) {i : Nat} {n : Int} {x : Int32} (v : Int32) (hdg : decode Y.2.2.1 pc = .ok (.iinc i n, 3)) (hi : nthO lv i = some (.int x)) (hv : x + Int32.ofInt n = v) (hn : i < Y.2.2.2.1) (e : setL lv i (.int v) = lv') (kk : GB Y M Q cs sl (pc + 3) lv' st ws) : GB Y M Q cs sl pc lv st ws := fun H locs ls hP hD hS hl => lv_iincP hE.1 hE.2.1 hdg hl (by have := asc_in id lv 0 i _ hi; rw [Nat.zero_add] at this; exact this) hv hn (fun ls' hl' => kk H locs ls' hP hD hS (lvR_set (v := .int v) hl' e))
theorem gb_goto (tgt : Nat) (hE : OB Y M) {off : Int} (hdg : decode Y.2.2.1 pc = .ok (.goto off, 3)) (ht : (pc : Int) + off = (tgt : Int)) (k : GB Y M Q cs sl tgt lv st ws) : GB Y M Q cs sl pc lv st ws := fun H locs ls hP hD hS hl => lv_goto hE.1 hE.2.1 hdg ht (k H locs ls hP hD hS hl)
theorem gb_icmp_ge (tgt : Nat) (hE : OB Y M) {x y : Int32} {off : Int} (hdg : decode Y.2.2.1 pc = .ok (.if_icmp .ge off, 3)) (ht : (pc : Int) + off = (tgt : Int)) (kt : y ≤ x → GB Y M Q cs sl tgt lv st ws) (kf : ¬ y ≤ x → GB Y M Q cs sl (pc + 3) lv st ws) : GB Y M Q cs sl pc lv (.int y :: .int x :: st) ws := fun H locs ls hP hD hS hl => lv_icmp_ge hE.1 hE.2.1 hdg ht (fun h => kt h H locs ls hP hD hS hl) (fun h => kf h H locs ls hP hD hS hl)
theorem gb_obj (hE : OB Y M) {i a : Nat} (hw : Cond.methodLink Y.1 i objectInit ∈ TB) (w1 : Cond.instanceMethod objectInit ∈ TB) (w2 : Cond.code objectInit ⟨#[0xb1]⟩ 1 none ∈ TB) (hfr : 1 ≤ M.2.2.2.2.frames) (hlo : 20 ≤ M.2.2.2.2.locals) (hr : (st.map fun v => v.category).sum ≤ 8) (hdg : decode Y.2.2.1 pc = .ok (.invokespecial i, 3)) (k : GB Y M Q cs sl (pc + 3) lv st ws) : GB Y M Q cs sl pc lv (.ref a :: st) ws := fun H locs ls hP hD hS hl =>
  W.objInit hE.1 hE.2.1 hE.2.2.2.1 (hE.2.2.2.2.1 _ hw) (hE.2.2.2.2.1 _ w1) (hE.2.2.2.2.1 _ w2) rfl (by show ls.size = _; rw [hl.1, hE.2.2.1]) rfl hdg hfr (by have := lv_room (m := M.2.1.1) (pc := pc) (ls := ls) (rest := .ref a :: st) hr; omega) (k H locs ls hP hD hS hl)
theorem arrB {s : State} {tys : List (ClassId × FieldType)} {w : BC} {cA : ClassId} {ty : FieldType} {D : va_G} {cl : List vw_C} (h : va_K D cl (tysB w ++ [(cA, ty)]) s) : va_RA s cA ty := (h.2 4 (cA, ty) rfl).2
theorem gb_newI (hE : OB Y M) {n : Int32} (N : Nat) (hn : ¬ n < 0) (hN : n.toNatClampNeg = N) (w1 : Cond.arrayClass .int ∈ TB) (hb : N * 4 ≤ 536870912) (hc : cs + 1 ≤ M.2.2.2.2.cells) (hs : sl + N ≤ M.2.2.2.2.slots) (hdg : decode Y.2.2.1 pc = .ok (.newarray .int, 2)) (k : ∀ q, GB Y M Q (cs + 1) (sl + N) (pc + 2) lv (.ref q :: st) (ws ++ [(q, .inl (M.2.2.1.2.1, N, .inl (fun _ => 0)))])) : GB Y M Q cs sl pc lv (.int n :: st) ws := fun H locs ls hP hD hS hl =>
  va_newa (atype := .int) (ty := .int) (a0 := (N, .inl (fun _ => 0))) hE.1 hE.2.1 (hE.2.2.2.2.1 _ w1) rfl hE.2.2.2.2.2.2.1.1 hP hD hS (fun q h => Nat.le_trans hE.2.2.2.2.2.2.2 h) (fun _ => rfl) hn hN hb hc hs hdg (fun q cA H1 hK1 hP1 hD1 hS1 => by
    have e : cA = M.2.2.1.2.1 := Option.some.inj ((arrB (tys := []) hK1).symm.trans (hE.2.2.2.2.2.2.1.1.2 0 _ rfl).2)
    subst e
    exact k q H1 locs ls hP1 hD1 hS1 hl)
theorem gb_newZ (hE : OB Y M) {n : Int32} (N : Nat) (hn : ¬ n < 0) (hN : n.toNatClampNeg = N) (w1 : Cond.arrayClass .boolean ∈ TB) (hb : N * 1 ≤ 536870912) (hc : cs + 1 ≤ M.2.2.2.2.cells) (hs : sl + N ≤ M.2.2.2.2.slots) (hdg : decode Y.2.2.1 pc = .ok (.newarray .boolean, 2)) (k : ∀ q, GB Y M Q (cs + 1) (sl + N) (pc + 2) lv (.ref q :: st) (ws ++ [(q, .inl (M.2.2.1.2.2.1, N, .inl (fun _ => 0)))])) : GB Y M Q cs sl pc lv (.int n :: st) ws := fun H locs ls hP hD hS hl =>
  va_newa (atype := .boolean) (ty := .boolean) (a0 := (N, .inl (fun _ => 0))) hE.1 hE.2.1 (hE.2.2.2.2.1 _ w1) rfl hE.2.2.2.2.2.2.1.1 hP hD hS (fun q h => Nat.le_trans hE.2.2.2.2.2.2.2 h) (fun _ => rfl) hn hN hb hc hs hdg (fun q cA H1 hK1 hP1 hD1 hS1 => by
    have e : cA = M.2.2.1.2.2.1 := Option.some.inj ((arrB (tys := []) hK1).symm.trans (hE.2.2.2.2.2.2.1.1.2 1 _ rfl).2)
    subst e
    exact k q H1 locs ls hP1 hD1 hS1 hl)
theorem gb_newJ (hE : OB Y M) {n : Int32} (N : Nat) (hn : ¬ n < 0) (hN : n.toNatClampNeg = N) (w1 : Cond.arrayClass .long ∈ TB) (hb : N * 8 ≤ 536870912) (hc : cs + 1 ≤ M.2.2.2.2.cells) (hs : sl + N ≤ M.2.2.2.2.slots) (hdg : decode Y.2.2.1 pc = .ok (.newarray .long, 2)) (k : ∀ q, GB Y M Q (cs + 1) (sl + N) (pc + 2) lv (.ref q :: st) (ws ++ [(q, .inl (M.2.2.1.2.2.2.1, N, .inr (.inl (fun _ => 0))))])) : GB Y M Q cs sl pc lv (.int n :: st) ws := fun H locs ls hP hD hS hl =>
  va_newa (atype := .long) (ty := .long) (a0 := (N, .inr (.inl (fun _ => 0)))) hE.1 hE.2.1 (hE.2.2.2.2.1 _ w1) rfl hE.2.2.2.2.2.2.1.1 hP hD hS (fun q h => Nat.le_trans hE.2.2.2.2.2.2.2 h) (fun _ => rfl) hn hN hb hc hs hdg (fun q cA H1 hK1 hP1 hD1 hS1 => by
    have e : cA = M.2.2.1.2.2.2.1 := Option.some.inj ((arrB (tys := []) hK1).symm.trans (hE.2.2.2.2.2.2.1.1.2 2 _ rfl).2)
    subst e
    exact k q H1 locs ls hP1 hD1 hS1 hl)
theorem gb_newQ (hE : OB Y M) {n : Int32} {i : Nat} (N : Nat) (hn : ¬ n < 0) (hN : n.toNatClampNeg = N) (hw : Cond.classLink Y.1 i "FoundVirtues$Sheet" ∈ TB) (hb : N * 4 ≤ 536870912) (hc : cs + 1 ≤ M.2.2.2.2.cells) (hs : sl + N ≤ M.2.2.2.2.slots) (hdg : decode Y.2.2.1 pc = .ok (.anewarray i, 3)) (k : ∀ q, GB Y M Q (cs + 1) (sl + N) (pc + 3) lv (.ref q :: st) (ws ++ [(q, .inl (M.2.2.1.2.2.2.2, N, .inr (.inr (.inr (.inr (fun _ => none))))))])) : GB Y M Q cs sl pc lv (.int n :: st) ws := fun H locs ls hP hD hS hl =>
  va_newq hE.1 hE.2.1 hE.2.2.2.1 (hE.2.2.2.2.1 _ hw) hE.2.2.2.2.2.2.1.2.1 hE.2.2.2.2.2.2.1.1 hP hD hS (fun q h => Nat.le_trans hE.2.2.2.2.2.2.2 h) hn hN hb hc hs hdg (fun q cA H1 hK1 hP1 hD1 hS1 => by
    obtain ⟨-, -, -, -, -, e1⟩ := arrB (tys := []) hK1
    obtain ⟨-, -, -, -, -, e2⟩ := (hE.2.2.2.2.2.2.1.1.2 3 _ rfl).2
    have e : cA = M.2.2.1.2.2.2.2 := Option.some.inj (e1.symm.trans e2)
    subst e
    exact k q H1 locs ls hP1 hD1 hS1 hl)
theorem gb_new (hE : OB Y M) {C : String} {T : u_T} {N ci i : Nat} (fs : List Value) (ty : Nat → FieldType) (hty : ∀ k, k < N → parseFieldDescriptor (T k).2.2.1 = some (ty k)) (hcl : vwCl[ci]? = some (C, T, N)) (hin : ∀ q ∈ u_ws C T N, q ∈ TB) (hw : Cond.classLink Y.1 i C ∈ TB) (w1 : Cond.instantiable C N ∈ TB) (w2 : Cond.initialized C ∈ TB) (hfs : ∀ j, j < N → defaultValue (ty j) = vp_V fs j) (hc : cs + 1 ≤ M.2.2.2.2.cells) (hs : sl + N ≤ M.2.2.2.2.slots) (hdg : decode Y.2.2.1 pc = .ok (.new i, 3)) (k : ∀ q, GB Y M Q (cs + 1) (sl + N) (pc + 3) lv (.ref q :: st) (ws ++ [(q, .inr (ci, fs))])) : GB Y M Q cs sl pc lv st ws := fun H locs ls hP hD hS hl =>
  va_new hE.1 hE.2.1 hE.2.2.2.2.1 hin ty hty hE.2.2.2.1 (hE.2.2.2.2.1 _ hw) (hE.2.2.2.2.1 _ w1) (hE.2.2.2.2.1 _ w2) hE.2.2.2.2.2.2.1.1 hP hD hS (fun q h => Nat.le_trans hE.2.2.2.2.2.2.2 h) hcl hfs hc hs hdg (fun q H1 hP1 hD1 hS1 => k q H1 locs ls hP1 hD1 hS1 hl)
theorem gb_putF (ws' : va_W) (t : Nat) (hE : OB Y M) (hin2 : M.2.1.2.2.2.1.name = "<init>") {a ci k i N : Nat} {fs : List Value} {C : String} {T : u_T} {v : Value} {ty : FieldType} (ty0 : Nat → FieldType) (hty : ∀ k, k < N → parseFieldDescriptor (T k).2.2.1 = some (ty0 k)) (hnm : ∀ a, a < N → ∀ b, b < N → a ≠ b → (T a).2.1 ≠ (T b).2.1) (he : ws[t]? = some (a, .inr (ci, fs))) (hc : vwCl[ci]? = some (C, T, N)) (hin : ∀ q ∈ u_ws C T N, q ∈ TB) (hkN : k < N) (hw : Cond.fieldLink Y.1 i (T k).1 (T k).2.1 (T k).2.2.1 ∈ TB) (hfin : (T k).2.2.2 = true) (hdecl : (T k).1 = Y.1) (hd : parseFieldDescriptor (T k).2.2.1 = some ty) (hn : narrow ty v = v) (hfit : fits ty v = true) (hl0 : k < fs.length) (e : ws.set t (a, .inr (ci, fs.set k v)) = ws') (hdg : decode Y.2.2.1 pc = .ok (.putfield i, 3)) (kk : GB Y M Q cs sl (pc + 3) lv st ws') : GB Y M Q cs sl pc lv (v :: .ref a :: st) ws := fun H locs ls hP hD hS hl => by
  subst e
  exact va_putF hE.1 hE.2.1 hE.2.2.2.2.1 hin ty0 hty hnm hE.2.2.2.1 hE.2.2.2.2.2.2.1.1 hP hD hS t he hc k hkN (hE.2.2.2.2.1 _ hw) (fun _ h => h) hfin hin2 hdecl hd hn hfit hl0 hdg (fun H1 locs1 h1 h2 h3 => kk H1 locs1 ls h1 h2 h3 hl)
theorem gb_put (ws' : va_W) (t : Nat) (hE : OB Y M) {a ci k i N : Nat} {fs : List Value} {C : String} {T : u_T} {v : Value} {ty : FieldType} (ty0 : Nat → FieldType) (hty : ∀ k, k < N → parseFieldDescriptor (T k).2.2.1 = some (ty0 k)) (hnm : ∀ a, a < N → ∀ b, b < N → a ≠ b → (T a).2.1 ≠ (T b).2.1) (he : ws[t]? = some (a, .inr (ci, fs))) (hc : vwCl[ci]? = some (C, T, N)) (hin : ∀ q ∈ u_ws C T N, q ∈ TB) (hkN : k < N) (hw : Cond.fieldLink Y.1 i (T k).1 (T k).2.1 (T k).2.2.1 ∈ TB) (hfin : (T k).2.2.2 = false) (hd : parseFieldDescriptor (T k).2.2.1 = some ty) (hn : narrow ty v = v) (hfit : fits ty v = true) (hl0 : k < fs.length) (e : ws.set t (a, .inr (ci, fs.set k v)) = ws') (hdg : decode Y.2.2.1 pc = .ok (.putfield i, 3)) (kk : GB Y M Q cs sl (pc + 3) lv st ws') : GB Y M Q cs sl pc lv (v :: .ref a :: st) ws := fun H locs ls hP hD hS hl => by
  subst e
  exact va_put hE.1 hE.2.1 hE.2.2.2.2.1 hin ty0 hty hnm hE.2.2.2.1 hE.2.2.2.2.2.2.1.1 hP hD hS t he hc k hkN (hE.2.2.2.2.1 _ hw) (fun _ h => h) hfin hd hn hfit hl0 hdg (fun H1 locs1 h1 h2 h3 => kk H1 locs1 ls h1 h2 h3 hl)
theorem gb_get (t : Nat) (hE : OB Y M) {a ci k i N : Nat} {fs : List Value} {C : String} {T : u_T} {v : Value} (he : ws[t]? = some (a, .inr (ci, fs))) (hc : vwCl[ci]? = some (C, T, N)) (hin : ∀ q ∈ u_ws C T N, q ∈ TB) (hkN : k < N) (hw : Cond.fieldLink Y.1 i (T k).1 (T k).2.1 (T k).2.2.1 ∈ TB) (hv : fs[k]? = some v) (hdg : decode Y.2.2.1 pc = .ok (.getfield i, 3)) (kk : GB Y M Q cs sl (pc + 3) lv (v :: st) ws) : GB Y M Q cs sl pc lv (.ref a :: st) ws := fun H locs ls hP hD hS hl =>
  va_get hE.1 hE.2.1 hE.2.2.2.2.1 hin hE.2.2.2.1 hE.2.2.2.2.2.2.1.1 hP t he hc k hkN (hE.2.2.2.2.1 _ hw) (fun _ h => h) hv hdg (kk H locs ls hP hD hS hl)
theorem gb_ast (ws' : va_W) (t u : Nat) (hE : OB Y M) {a v n : Nat} {vs : List Value} {f : Nat → Option Nat} {i : Int32} (ha : ws[t]? = some (a, .inl (M.2.2.1.2.2.2.2, n, .inr (.inr (.inr (.inr f)))))) (hv : ws[u]? = some (v, .inr (5, vs))) (hin : vp_in i n) (e : ws.set t (a, .inl (M.2.2.1.2.2.2.2, n, .inr (.inr (.inr (.inr (va_up f i.toNatClampNeg (some v))))))) = ws') (hdg : decode Y.2.2.1 pc = .ok (.aastore, 1)) (kk : GB Y M Q cs sl (pc + 1) lv st ws') : GB Y M Q cs sl pc lv (.ref v :: .int i :: .ref a :: st) ws := fun H locs ls hP hD hS hl => by
  subst e
  exact va_astq (r := (RX5, TX5, 3)) hE.1 hE.2.1 hE.2.2.2.2.2.2.1.1 hP hD hS t 3 u 5 ha rfl hv rfl hin hdg (fun H1 locs1 h1 h2 h3 => kk H1 locs1 ls h1 h2 h3 hl)
theorem gb_ret (hE : OB Y M) {P : va_W → Prop} (hr : M.2.1.2.2.2.1.sig.returnType = none) (hp : P ws) (hc : cs = M.2.2.2.2.cells) (hs : sl = M.2.2.2.2.slots) (hdg : decode Y.2.2.1 pc = .ok (.return_, 1)) : GB Y M (MQ M.2.1.2.2.1 (QC M.2.2.1 M.2.2.2.1 P) M.2.1.2.1 M.1.2.2.2 M.2.2.2.2.cells M.2.2.2.2.slots (AB M.2.2.2.1)) cs sl pc lv [] ws := fun H locs ls hP hD hS hl => by
  subst hc
  subst hs
  exact W.vret hE.1 hE.2.1 hr (fun t ht hW => ⟨rfl, ⟨ws, hp, by rw [ht]; exact Nat.le_trans hE.2.2.2.2.2.2.2 hS.1, by rw [ht]; exact hP, hD, hE.2.2.2.2.2.2.1.warm hW⟩, hS.F ht⟩) hS.2.2 hdg hE.2.2.2.2.2.1
/-- what the tables say of a constructor -/
def MI0 (Y : MI) (n : Nat) : Prop := Cond.code Y.2.1 Y.2.2.1 Y.2.2.2.1 none ∈ TB ∧ Cond.instanceMethod Y.2.1 ∈ TB ∧ Cond.initialized Y.2.1.cls ∈ TB ∧ Y.2.1.name = "<init>" ∧ (Y.2.1.cls ≠ "java/lang/invoke/MethodHandle" ∧ Y.2.1.cls ≠ "java/lang/invoke/VarHandle" ∧ (parseMethodDescriptor Y.2.1.desc).map (fun d => d.parameters.length) = some n)
theorem blindB {w : BC} {b : Nat} {av : List Value} : FrameBlind (va_Pc av (BS w b ws)) := fun a U g mk h => ⟨h.1, h.2.1, h.2.2.1, h.2.2.2.1, h.2.2.2.2.call⟩
theorem gb_run {R' : Room} {P : va_W → Prop} {st0 rest : List Value} {a : Array Value}
    (hr : ∀ (H : Heap) (locs : List Loc) (ls : Array Slot), va_P M.2.2.1.1 vwCl ws H → va_D (AB M.2.2.2.1) ws → va_S (AB M.2.2.2.1) M.1.2.2.2.heap H locs → lv_has ls Y.2.2.2.1 (asc id 0 lv) → va_Run M.1.1 M.1.2.1 M.1.2.2.1 M.2.2.2.2 M.1.2.2.2 M.2.1.1 M.2.1.2.1 M.2.1.2.2.1 M.2.1.2.2.2.1 M.2.1.2.2.2.2 H locs cs sl R'.cells R'.slots (F0 M.2.1.1 pc ls st0) rest (QC M.2.2.1 M.2.2.2.1 P a) (AB M.2.2.2.1))
    (k : ∀ ws', P ws' → GB Y M Q (cs + R'.cells) (sl + R'.slots) (pc + 3) lv rest ws') : GB Y M Q cs sl pc lv st0 ws := by
  intro H locs ls hP hD hS hl T hT X
  obtain ⟨v, st₀, t, T', L, h0, X', hL, e1, e2, ⟨ho, ⟨ws', hp, hB⟩, hF⟩, hst⟩ := hr H locs ls hP hD hS hl T hT X
  have hv : v = none := Outcome.returned.inj ho
  subst hv
  have hS' : va_S (AB M.2.2.2.1) M.1.2.2.2.heap T'.heap (locs ++ L) := by
    refine ⟨Nat.le_trans hS.1 (by rw [e1, ← h0]; exact hF.1), fun q h1 h2 => ?_, fun q hq => ?_⟩
    · rw [e1, hF.2 q (by rw [h0]; exact Nat.lt_of_lt_of_le h1 hS.1) h2, h0]
      exact hS.2.1 q h1 h2
    · rcases List.mem_append.mp hq with h | h
      · exact hS.2.2 q h
      · exact hL q h
  obtain ⟨t2, a1, b1⟩ := k ws' hp T'.heap (locs ++ L) ls (by rw [e1]; exact hB.2.1) hB.2.2.1 hS' hl T' rfl X'
  exact ⟨t2, hst t2 a1, b1⟩
theorem gb_callI {Y' : MI} {R' : Room} {P : va_W → Prop} {n i a : Nat} {As rest st0 : List Value} (hE : OB Y M) (hM : MI0 Y' n) (hw : Cond.methodLink Y.1 i Y'.2.1 ∈ TB) (hR : R'.frames + 1 ≤ M.2.2.2.2.frames ∧ 8 + (Y'.2.2.2.1 + 11) + R'.locals ≤ M.2.2.2.2.locals) (hn : As.length = n) (hst : st0 = As.reverse ++ .ref a :: rest) (hr : (rest.map fun v => v.category).sum ≤ 8) (hc : cs + R'.cells ≤ M.2.2.2.2.cells) (hs : sl + R'.slots ≤ M.2.2.2.2.slots) (hdg : decode Y.2.2.1 pc = .ok (.invokespecial i, 3))
    (h : CB M.1.2.1 Y' R' M.2.2.1 M.2.2.2.1 (.ref a :: As) ws P) (k : ∀ ws', P ws' → GB Y M Q (cs + R'.cells) (sl + R'.slots) (pc + 3) lv rest ws') : GB Y M Q cs sl pc lv st0 ws := by
  refine gb_run (a := (Value.ref a :: As).toArray) (fun H locs ls hP hD hS hl => ?_) k
  obtain ⟨w1, w2, w3, hy1, hy⟩ := hM
  exact va_runI (As := As) (rest := rest) ⟨hE.1, hE.2.1, hE.2.2.1, hE.2.2.2.1, hE.2.2.2.2.1⟩ h (cwI n hE.2.2.2.2.1 (goodW (wsCT w1)) rfl rfl rfl (hE.2.2.2.2.1 _ w3) (hE.2.2.2.2.1 _ hw) (hE.2.2.2.2.1 _ w2) hy1 hy hR) ⟨blindB, fun U hU hW => ⟨rfl, by rw [hU]; exact Nat.le_trans hE.2.2.2.2.2.2.2 hS.1, by rw [hU]; exact hP, hD, hE.2.2.2.2.2.2.1.warm hW⟩⟩ rfl hn hl.1 (by rw [hst]) (lv_room hr) hdg ⟨hc, hs⟩
theorem gb_callN {Y' : MI} {R' : Room} {P : va_W → Prop} {n i a : Nat} {host : String} {As rest st0 : List Value} (hE : OB Y M) (hM : MI0 Y' n) (hw : Cond.methodLinkNest Y.1 i Y'.2.1 host ∈ nestW) (hR : R'.frames + 1 ≤ M.2.2.2.2.frames ∧ 8 + (Y'.2.2.2.1 + 11) + R'.locals ≤ M.2.2.2.2.locals) (hn : As.length = n) (hst : st0 = As.reverse ++ .ref a :: rest) (hr : (rest.map fun v => v.category).sum ≤ 8) (hc : cs + R'.cells ≤ M.2.2.2.2.cells) (hs : sl + R'.slots ≤ M.2.2.2.2.slots) (hdg : decode Y.2.2.1 pc = .ok (.invokespecial i, 3))
    (h : CB M.1.2.1 Y' R' M.2.2.1 M.2.2.2.1 (.ref a :: As) ws P) (k : ∀ ws', P ws' → GB Y M Q (cs + R'.cells) (sl + R'.slots) (pc + 3) lv rest ws') : GB Y M Q cs sl pc lv st0 ws := by
  refine gb_run (a := (Value.ref a :: As).toArray) (fun H locs ls hP hD hS hl => ?_) k
  obtain ⟨w1, w2, w3, hy1, hy⟩ := hM
  exact va_runIN (As := As) (rest := rest) ⟨hE.1, hE.2.1, hE.2.2.1, hE.2.2.2.1, hE.2.2.2.2.1⟩ h ⟨va_cnB n hE.2.2.2.2.1 (goodW (wsCT w1)) rfl rfl rfl (hE.2.2.2.2.2.2.1.2.2 _ hw) (hE.2.2.2.2.1 _ w3) hy hR, hy1, hE.2.2.2.2.1 _ w2⟩ ⟨blindB, fun U hU hW => ⟨rfl, by rw [hU]; exact Nat.le_trans hE.2.2.2.2.2.2.2 hS.1, by rw [hU]; exact hP, hD, hE.2.2.2.2.2.2.1.warm hW⟩⟩ rfl hn hl.1 (by rw [hst]) (lv_room hr) hdg ⟨hc, hs⟩
end RowsB
