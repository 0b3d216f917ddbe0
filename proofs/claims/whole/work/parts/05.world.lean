/-! THE WORLD: the cells of the class (false) and of the reference (true), by number. Printed by wip/whole/gen/mkworld.py. -/
abbrev KX0 : Kd := (0, 0, [(2, 1), (2, 2), (0, 0)])
abbrev KX1 : Kd := (0, 1, [(0, 0), (2, 1), (2, 2), (2, 3), (0, 0), (0, 0), (0, 0)])
abbrev KX2 : Kd := (0, 2, [(3, 1), (3, 5), (0, 0), (0, 0), (0, 0)])
abbrev KX3 : Kd := (0, 3, [(2, 1), (1, 0), (1, 0)])
abbrev KX4 : Kd := (0, 4, [(3, 9), (2, 1), (2, 2), (0, 0), (2, 3), (2, 4), (2, 5), (2, 6), (2, 7), (2, 8), (2, 9), (2, 10), (0, 0), (0, 0), (0, 0), (1, 0), (0, 0)])
abbrev KX5 : Kd := (0, 5, [(2, 1), (0, 0), (0, 0)])
abbrev KX6 : Kd := (0, 6, [(2, 1), (2, 2), (2, 3), (0, 0)])
abbrev KX7 : Kd := (0, 7, [(3, 1), (3, 5), (3, 9), (3, 10), (3, 13), (3, 16), (3, 20), (3, 31), (3, 42), (3, 44), (0, 0), (0, 0), (0, 0)])
abbrev KX8 : Kd := (0, 8, [(3, 1), (3, 2), (0, 0), (3, 3), (3, 4), (0, 0), (3, 5), (3, 6), (3, 7), (0, 0), (0, 0), (0, 0), (0, 0), (3, 8), (3, 9), (0, 0), (3, 10), (3, 11), (3, 12), (3, 13), (3, 14), (0, 0), (0, 0), (3, 15), (3, 16), (3, 17), (3, 18), (0, 0), (3, 19), (3, 20), (3, 21), (3, 22), (3, 23), (3, 24), (3, 25), (3, 26), (0, 0)])
def tabX : List Kd := [KX7, KX1, (1, 8, []), (1, 8, []), (1, 8, []), KX1, (1, 8, []), (1, 8, []), (1, 8, []), KX2, KX0, (1, 12, []), (1, 12, []), KX0, (1, 12, []), (1, 12, []), KX6, (1, 8, []), (1, 8, []), (1, 8, []), KX4, (1, 40, []), (1, 52, []), (1, 8, []), (1, 8, []), (1, 40, []), (1, 40, []), (1, 40, []), (1, 40, []), (1, 8, []), (1, 8, []), KX4, (1, 40, []), (1, 52, []), (1, 8, []), (1, 8, []), (1, 40, []), (1, 40, []), (1, 40, []), (1, 40, []), (1, 8, []), (1, 8, []), KX3, (3, 256, []), (4, 4, [(45, 2)]), KX5, (1, 48, []), KX5, (1, 48, []), KX5, (1, 48, []), KX5, (1, 48, [])]
def tabM : List Kd := [KX8, (1, 2, []), (1, 94, []), (1, 9, []), (1, 9, []), (1, 9, []), (1, 9, []), (1, 9, []), (1, 52, []), (1, 52, []), (1, 52, []), (1, 52, []), (1, 8, []), (1, 8, []), (1, 8, []), (1, 2304, []), (1, 8, []), (1, 256, []), (1, 8, []), (1, 8, []), (1, 8, []), (1, 8, []), (2, 4, []), (1, 4, []), (1, 4, []), (1, 192, []), (1, 48, [])]
def kd (sp : Bool) (t : Nat) : Kd := (if sp then tabM else tabX).getD t (9, 0, [])
def NN (sp : Bool) : Nat := if sp then 27 else 53
theorem kd_lt {sp : Bool} {t : Nat} (h : (kd sp t).1 ≠ 9) : t < NN sp := by
  refine Nat.not_le.mp fun q => h ?_
  unfold kd
  cases sp
  · rw [List.getD_eq_getElem?_getD, List.getElem?_eq_none (by exact q)]; rfl
  · rw [List.getD_eq_getElem?_getD, List.getElem?_eq_none (by exact q)]; rfl
def TB : List Cond := lw_tbl.filter goodWord
theorem tbm {w : Cond} (i : Nat) (h : lw_tbl[i]? = some w) (g : goodWord w = true) : w ∈ TB := List.mem_filter.mpr ⟨List.mem_of_getElem? h, g⟩
theorem goodTB {w : Cond} (h : w ∈ TB) : w ∈ TB ∧ ((w.onTables && w.keeps) = true ∨ ∃ ty, w = .arrayClass ty) := ⟨h, good_of_word (List.mem_filter.mp h).2⟩
def nestW : List Cond := [(Jvm.Cond.fieldLinkNest "FoundVirtues$Run" (94 : Nat) "FoundVirtues$Office" "virtues" "LFoundVirtues$Entries;" "FoundVirtues"), (Jvm.Cond.fieldLinkNest "FoundVirtues$Rows" (33 : Nat) "FoundVirtues$Office" "virtues" "LFoundVirtues$Entries;" "FoundVirtues"), (Jvm.Cond.fieldLinkNest "FoundVirtues$Run" (56 : Nat) "FoundVirtues$Office" "claimants" "LFoundVirtues$Entries;" "FoundVirtues"), (Jvm.Cond.fieldLinkNest "FoundVirtues$Rows" (21 : Nat) "FoundVirtues$Office" "claimants" "LFoundVirtues$Entries;" "FoundVirtues"), (Jvm.Cond.methodLinkNest "FoundVirtues" (32 : Nat) ({ cls := "FoundVirtues$Book", name := "<init>", desc := "()V" } : Jvm.MethodName) "FoundVirtues"), (Jvm.Cond.methodLinkNest "FoundVirtues" (42 : Nat) ({ cls := "FoundVirtues$Sightings", name := "<init>", desc := "()V" } : Jvm.MethodName) "FoundVirtues"), (Jvm.Cond.methodLinkNest "FoundVirtues" (61 : Nat) ({ cls := "FoundVirtues$Rows", name := "<init>", desc := "()V" } : Jvm.MethodName) "FoundVirtues"), (Jvm.Cond.methodLinkNest "FoundVirtues" (72 : Nat) ({ cls := "FoundVirtues$Sheet", name := "<init>", desc := "()V" } : Jvm.MethodName) "FoundVirtues"), (Jvm.Cond.methodLinkNest "FoundVirtues$Book" (18 : Nat) ({ cls := "FoundVirtues", name := "outside", desc := "(II)Z" } : Jvm.MethodName) "FoundVirtues"), (Jvm.Cond.methodLinkNest "FoundVirtues$Sightings" (21 : Nat) ({ cls := "FoundVirtues", name := "outside", desc := "(II)Z" } : Jvm.MethodName) "FoundVirtues"), (Jvm.Cond.methodLinkNest "FoundVirtues$Sheet" (32 : Nat) ({ cls := "FoundVirtues", name := "outside", desc := "(II)Z" } : Jvm.MethodName) "FoundVirtues")]
theorem lay0 : ∀ k, k < 3 → u_lay RX0 TX0 k ∈ lw_tbl := fun k hk => match k, hk with
  | 0, _ => List.mem_of_getElem? (i := 173) (by decide +kernel)
  | 1, _ => List.mem_of_getElem? (i := 175) (by decide +kernel)
  | 2, _ => List.mem_of_getElem? (i := 177) (by decide +kernel)
  | k + 3, h => absurd h (by omega)
theorem layg0 : ∀ k, k < 3 → goodWord (u_lay RX0 TX0 k) = true := by decide +kernel
theorem lay1 : ∀ k, k < 7 → u_lay RX1 TX1 k ∈ lw_tbl := fun k hk => match k, hk with
  | 0, _ => List.mem_of_getElem? (i := 115) (by decide +kernel)
  | 1, _ => List.mem_of_getElem? (i := 117) (by decide +kernel)
  | 2, _ => List.mem_of_getElem? (i := 119) (by decide +kernel)
  | 3, _ => List.mem_of_getElem? (i := 121) (by decide +kernel)
  | 4, _ => List.mem_of_getElem? (i := 123) (by decide +kernel)
  | 5, _ => List.mem_of_getElem? (i := 125) (by decide +kernel)
  | 6, _ => List.mem_of_getElem? (i := 127) (by decide +kernel)
  | k + 7, h => absurd h (by omega)
theorem layg1 : ∀ k, k < 7 → goodWord (u_lay RX1 TX1 k) = true := by decide +kernel
theorem lay2 : ∀ k, k < 5 → u_lay RX2 TX2 k ∈ lw_tbl := fun k hk => match k, hk with
  | 0, _ => List.mem_of_getElem? (i := 149) (by decide +kernel)
  | 1, _ => List.mem_of_getElem? (i := 151) (by decide +kernel)
  | 2, _ => List.mem_of_getElem? (i := 153) (by decide +kernel)
  | 3, _ => List.mem_of_getElem? (i := 155) (by decide +kernel)
  | 4, _ => List.mem_of_getElem? (i := 157) (by decide +kernel)
  | k + 5, h => absurd h (by omega)
theorem layg2 : ∀ k, k < 5 → goodWord (u_lay RX2 TX2 k) = true := by decide +kernel
theorem lay3 : ∀ k, k < 3 → u_lay RX3 TX3 k ∈ lw_tbl := fun k hk => match k, hk with
  | 0, _ => List.mem_of_getElem? (i := 279) (by decide +kernel)
  | 1, _ => List.mem_of_getElem? (i := 281) (by decide +kernel)
  | 2, _ => List.mem_of_getElem? (i := 283) (by decide +kernel)
  | k + 3, h => absurd h (by omega)
theorem layg3 : ∀ k, k < 3 → goodWord (u_lay RX3 TX3 k) = true := by decide +kernel
theorem lay4 : ∀ k, k < 17 → u_lay RX4 TX4 k ∈ lw_tbl := fun k hk => match k, hk with
  | 0, _ => List.mem_of_getElem? (i := 233) (by decide +kernel)
  | 1, _ => List.mem_of_getElem? (i := 235) (by decide +kernel)
  | 2, _ => List.mem_of_getElem? (i := 237) (by decide +kernel)
  | 3, _ => List.mem_of_getElem? (i := 239) (by decide +kernel)
  | 4, _ => List.mem_of_getElem? (i := 241) (by decide +kernel)
  | 5, _ => List.mem_of_getElem? (i := 243) (by decide +kernel)
  | 6, _ => List.mem_of_getElem? (i := 245) (by decide +kernel)
  | 7, _ => List.mem_of_getElem? (i := 247) (by decide +kernel)
  | 8, _ => List.mem_of_getElem? (i := 249) (by decide +kernel)
  | 9, _ => List.mem_of_getElem? (i := 251) (by decide +kernel)
  | 10, _ => List.mem_of_getElem? (i := 253) (by decide +kernel)
  | 11, _ => List.mem_of_getElem? (i := 255) (by decide +kernel)
  | 12, _ => List.mem_of_getElem? (i := 257) (by decide +kernel)
  | 13, _ => List.mem_of_getElem? (i := 259) (by decide +kernel)
  | 14, _ => List.mem_of_getElem? (i := 261) (by decide +kernel)
  | 15, _ => List.mem_of_getElem? (i := 263) (by decide +kernel)
  | 16, _ => List.mem_of_getElem? (i := 265) (by decide +kernel)
  | k + 17, h => absurd h (by omega)
theorem layg4 : ∀ k, k < 17 → goodWord (u_lay RX4 TX4 k) = true := by decide +kernel
theorem lay5 : ∀ k, k < 3 → u_lay RX5 TX5 k ∈ lw_tbl := fun k hk => match k, hk with
  | 0, _ => List.mem_of_getElem? (i := 300) (by decide +kernel)
  | 1, _ => List.mem_of_getElem? (i := 302) (by decide +kernel)
  | 2, _ => List.mem_of_getElem? (i := 304) (by decide +kernel)
  | k + 3, h => absurd h (by omega)
theorem layg5 : ∀ k, k < 3 → goodWord (u_lay RX5 TX5 k) = true := by decide +kernel
theorem lay6 : ∀ k, k < 4 → u_lay RX6 TX6 k ∈ lw_tbl := fun k hk => match k, hk with
  | 0, _ => List.mem_of_getElem? (i := 191) (by decide +kernel)
  | 1, _ => List.mem_of_getElem? (i := 193) (by decide +kernel)
  | 2, _ => List.mem_of_getElem? (i := 195) (by decide +kernel)
  | 3, _ => List.mem_of_getElem? (i := 197) (by decide +kernel)
  | k + 4, h => absurd h (by omega)
theorem layg6 : ∀ k, k < 4 → goodWord (u_lay RX6 TX6 k) = true := by decide +kernel
theorem lay7 : ∀ k, k < 13 → u_lay RX7 TX7 k ∈ lw_tbl := fun k hk => match k, hk with
  | 0, _ => List.mem_of_getElem? (i := 320) (by decide +kernel)
  | 1, _ => List.mem_of_getElem? (i := 322) (by decide +kernel)
  | 2, _ => List.mem_of_getElem? (i := 324) (by decide +kernel)
  | 3, _ => List.mem_of_getElem? (i := 326) (by decide +kernel)
  | 4, _ => List.mem_of_getElem? (i := 328) (by decide +kernel)
  | 5, _ => List.mem_of_getElem? (i := 330) (by decide +kernel)
  | 6, _ => List.mem_of_getElem? (i := 332) (by decide +kernel)
  | 7, _ => List.mem_of_getElem? (i := 334) (by decide +kernel)
  | 8, _ => List.mem_of_getElem? (i := 336) (by decide +kernel)
  | 9, _ => List.mem_of_getElem? (i := 338) (by decide +kernel)
  | 10, _ => List.mem_of_getElem? (i := 340) (by decide +kernel)
  | 11, _ => List.mem_of_getElem? (i := 342) (by decide +kernel)
  | 12, _ => List.mem_of_getElem? (i := 344) (by decide +kernel)
  | k + 13, h => absurd h (by omega)
theorem layg7 : ∀ k, k < 13 → goodWord (u_lay RX7 TX7 k) = true := by decide +kernel
theorem lay8 : ∀ k, k < 37 → u_lay RX8 TX8 k ∈ lw_tbl := fun k hk => match k, hk with
  | 0, _ => List.mem_of_getElem? (i := 855) (by decide +kernel)
  | 1, _ => List.mem_of_getElem? (i := 857) (by decide +kernel)
  | 2, _ => List.mem_of_getElem? (i := 859) (by decide +kernel)
  | 3, _ => List.mem_of_getElem? (i := 861) (by decide +kernel)
  | 4, _ => List.mem_of_getElem? (i := 863) (by decide +kernel)
  | 5, _ => List.mem_of_getElem? (i := 865) (by decide +kernel)
  | 6, _ => List.mem_of_getElem? (i := 867) (by decide +kernel)
  | 7, _ => List.mem_of_getElem? (i := 869) (by decide +kernel)
  | 8, _ => List.mem_of_getElem? (i := 871) (by decide +kernel)
  | 9, _ => List.mem_of_getElem? (i := 873) (by decide +kernel)
  | 10, _ => List.mem_of_getElem? (i := 875) (by decide +kernel)
  | 11, _ => List.mem_of_getElem? (i := 877) (by decide +kernel)
  | 12, _ => List.mem_of_getElem? (i := 879) (by decide +kernel)
  | 13, _ => List.mem_of_getElem? (i := 881) (by decide +kernel)
  | 14, _ => List.mem_of_getElem? (i := 883) (by decide +kernel)
  | 15, _ => List.mem_of_getElem? (i := 885) (by decide +kernel)
  | 16, _ => List.mem_of_getElem? (i := 887) (by decide +kernel)
  | 17, _ => List.mem_of_getElem? (i := 889) (by decide +kernel)
  | 18, _ => List.mem_of_getElem? (i := 891) (by decide +kernel)
  | 19, _ => List.mem_of_getElem? (i := 893) (by decide +kernel)
  | 20, _ => List.mem_of_getElem? (i := 895) (by decide +kernel)
  | 21, _ => List.mem_of_getElem? (i := 897) (by decide +kernel)
  | 22, _ => List.mem_of_getElem? (i := 899) (by decide +kernel)
  | 23, _ => List.mem_of_getElem? (i := 901) (by decide +kernel)
  | 24, _ => List.mem_of_getElem? (i := 903) (by decide +kernel)
  | 25, _ => List.mem_of_getElem? (i := 905) (by decide +kernel)
  | 26, _ => List.mem_of_getElem? (i := 907) (by decide +kernel)
  | 27, _ => List.mem_of_getElem? (i := 909) (by decide +kernel)
  | 28, _ => List.mem_of_getElem? (i := 911) (by decide +kernel)
  | 29, _ => List.mem_of_getElem? (i := 913) (by decide +kernel)
  | 30, _ => List.mem_of_getElem? (i := 915) (by decide +kernel)
  | 31, _ => List.mem_of_getElem? (i := 917) (by decide +kernel)
  | 32, _ => List.mem_of_getElem? (i := 919) (by decide +kernel)
  | 33, _ => List.mem_of_getElem? (i := 921) (by decide +kernel)
  | 34, _ => List.mem_of_getElem? (i := 923) (by decide +kernel)
  | 35, _ => List.mem_of_getElem? (i := 925) (by decide +kernel)
  | 36, _ => List.mem_of_getElem? (i := 927) (by decide +kernel)
  | k + 37, h => absurd h (by omega)
theorem layg8 : ∀ k, k < 37 → goodWord (u_lay RX8 TX8 k) = true := by decide +kernel
theorem inX0 : ∀ w ∈ u_ws RX0 TX0 3, w ∈ TB := by
  intro w hw
  refine List.mem_filter.mpr ?_
  obtain ⟨k, hk, rfl⟩ := List.mem_map.mp hw
  have hk := List.mem_range.mp hk
  exact ⟨lay0 k hk, layg0 k hk⟩
theorem inX1 : ∀ w ∈ u_ws RX1 TX1 7, w ∈ TB := by
  intro w hw
  refine List.mem_filter.mpr ?_
  obtain ⟨k, hk, rfl⟩ := List.mem_map.mp hw
  have hk := List.mem_range.mp hk
  exact ⟨lay1 k hk, layg1 k hk⟩
theorem inX2 : ∀ w ∈ u_ws RX2 TX2 5, w ∈ TB := by
  intro w hw
  refine List.mem_filter.mpr ?_
  obtain ⟨k, hk, rfl⟩ := List.mem_map.mp hw
  have hk := List.mem_range.mp hk
  exact ⟨lay2 k hk, layg2 k hk⟩
theorem inX3 : ∀ w ∈ u_ws RX3 TX3 3, w ∈ TB := by
  intro w hw
  refine List.mem_filter.mpr ?_
  obtain ⟨k, hk, rfl⟩ := List.mem_map.mp hw
  have hk := List.mem_range.mp hk
  exact ⟨lay3 k hk, layg3 k hk⟩
theorem inX4 : ∀ w ∈ u_ws RX4 TX4 17, w ∈ TB := by
  intro w hw
  refine List.mem_filter.mpr ?_
  obtain ⟨k, hk, rfl⟩ := List.mem_map.mp hw
  have hk := List.mem_range.mp hk
  exact ⟨lay4 k hk, layg4 k hk⟩
theorem inX5 : ∀ w ∈ u_ws RX5 TX5 3, w ∈ TB := by
  intro w hw
  refine List.mem_filter.mpr ?_
  obtain ⟨k, hk, rfl⟩ := List.mem_map.mp hw
  have hk := List.mem_range.mp hk
  exact ⟨lay5 k hk, layg5 k hk⟩
theorem inX6 : ∀ w ∈ u_ws RX6 TX6 4, w ∈ TB := by
  intro w hw
  refine List.mem_filter.mpr ?_
  obtain ⟨k, hk, rfl⟩ := List.mem_map.mp hw
  have hk := List.mem_range.mp hk
  exact ⟨lay6 k hk, layg6 k hk⟩
theorem inX7 : ∀ w ∈ u_ws RX7 TX7 13, w ∈ TB := by
  intro w hw
  refine List.mem_filter.mpr ?_
  obtain ⟨k, hk, rfl⟩ := List.mem_map.mp hw
  have hk := List.mem_range.mp hk
  exact ⟨lay7 k hk, layg7 k hk⟩
theorem inX8 : ∀ w ∈ u_ws RX8 TX8 37, w ∈ TB := by
  intro w hw
  refine List.mem_filter.mpr ?_
  obtain ⟨k, hk, rfl⟩ := List.mem_map.mp hw
  have hk := List.mem_range.mp hk
  exact ⟨lay8 k hk, layg8 k hk⟩
