/-! WORDS for constructors. Printed by wip/whole/gen/mkinit.py. -/
theorem wz_RL : Cond.initialized RL ∈ TB := tbm 66 (by decide +kernel) (by decide +kernel)
theorem wz_RX7 : Cond.initialized RX7 ∈ TB := tbm 67 (by decide +kernel) (by decide +kernel)
theorem wz_RX1 : Cond.initialized RX1 ∈ TB := tbm 68 (by decide +kernel) (by decide +kernel)
theorem wz_RX2 : Cond.initialized RX2 ∈ TB := tbm 69 (by decide +kernel) (by decide +kernel)
theorem wz_RX0 : Cond.initialized RX0 ∈ TB := tbm 70 (by decide +kernel) (by decide +kernel)
theorem wz_RX6 : Cond.initialized RX6 ∈ TB := tbm 71 (by decide +kernel) (by decide +kernel)
theorem wz_RX4 : Cond.initialized RX4 ∈ TB := tbm 72 (by decide +kernel) (by decide +kernel)
theorem wz_RX3 : Cond.initialized RX3 ∈ TB := tbm 73 (by decide +kernel) (by decide +kernel)
theorem wz_RX5 : Cond.initialized RX5 ∈ TB := tbm 74 (by decide +kernel) (by decide +kernel)
theorem wz_RX8 : Cond.initialized RX8 ∈ TB := tbm 75 (by decide +kernel) (by decide +kernel)
theorem wz_RJ7 : Cond.initialized RJ7 ∈ TB := tbm 76 (by decide +kernel) (by decide +kernel)
theorem wz_RJ6 : Cond.initialized RJ6 ∈ TB := tbm 77 (by decide +kernel) (by decide +kernel)
theorem wz_RJ9 : Cond.initialized RJ9 ∈ TB := tbm 78 (by decide +kernel) (by decide +kernel)
theorem wz_RJ10 : Cond.initialized RJ10 ∈ TB := tbm 79 (by decide +kernel) (by decide +kernel)
theorem wc_RL_7 : Cond.classLink RL 7 RX7 ∈ TB := tbm 80 (by decide +kernel) (by decide +kernel)
theorem wt_RX7 : Cond.instantiable RX7 13 ∈ TB := tbm 81 (by decide +kernel) (by decide +kernel)
theorem wmi_RL_9 : Cond.methodLink RL 9 yX7_init ∈ TB := tbm 82 (by decide +kernel) (by decide +kernel)
theorem wo_RX7 : Cond.methodLink RX7 1 objectInit ∈ TB := tbm 85 (by decide +kernel) (by decide +kernel)
theorem wc_RX7_7 : Cond.classLink RX7 7 RX1 ∈ TB := tbm 88 (by decide +kernel) (by decide +kernel)
theorem wt_RX1 : Cond.instantiable RX1 7 ∈ TB := tbm 89 (by decide +kernel) (by decide +kernel)
theorem wmi_RX7_9 : Cond.methodLink RX7 9 yX1_init ∈ TB := tbm 90 (by decide +kernel) (by decide +kernel)
theorem wo_RX1 : Cond.methodLink RX1 3 objectInit ∈ TB := tbm 93 (by decide +kernel) (by decide +kernel)
theorem wc_RX7_21 : Cond.classLink RX7 21 RX2 ∈ TB := tbm 131 (by decide +kernel) (by decide +kernel)
theorem wt_RX2 : Cond.instantiable RX2 5 ∈ TB := tbm 132 (by decide +kernel) (by decide +kernel)
theorem wmi_RX7_23 : Cond.methodLink RX7 23 yX2_init ∈ TB := tbm 133 (by decide +kernel) (by decide +kernel)
theorem wo_RX2 : Cond.methodLink RX2 3 objectInit ∈ TB := tbm 136 (by decide +kernel) (by decide +kernel)
theorem wc_RX7_30 : Cond.classLink RX7 30 RX0 ∈ TB := tbm 160 (by decide +kernel) (by decide +kernel)
theorem wt_RX0 : Cond.instantiable RX0 3 ∈ TB := tbm 161 (by decide +kernel) (by decide +kernel)
theorem wo_RX0 : Cond.methodLink RX0 3 objectInit ∈ TB := tbm 165 (by decide +kernel) (by decide +kernel)
theorem wc_RX7_40 : Cond.classLink RX7 40 RX6 ∈ TB := tbm 180 (by decide +kernel) (by decide +kernel)
theorem wt_RX6 : Cond.instantiable RX6 4 ∈ TB := tbm 181 (by decide +kernel) (by decide +kernel)
theorem wo_RX6 : Cond.methodLink RX6 3 objectInit ∈ TB := tbm 185 (by decide +kernel) (by decide +kernel)
theorem wc_RX7_47 : Cond.classLink RX7 47 RX4 ∈ TB := tbm 200 (by decide +kernel) (by decide +kernel)
theorem wt_RX4 : Cond.instantiable RX4 17 ∈ TB := tbm 201 (by decide +kernel) (by decide +kernel)
theorem wmi_RX7_49 : Cond.methodLink RX7 49 yX4_init ∈ TB := tbm 202 (by decide +kernel) (by decide +kernel)
theorem wo_RX4 : Cond.methodLink RX4 5 objectInit ∈ TB := tbm 205 (by decide +kernel) (by decide +kernel)
theorem wc_RX7_59 : Cond.classLink RX7 59 RX3 ∈ TB := tbm 268 (by decide +kernel) (by decide +kernel)
theorem wt_RX3 : Cond.instantiable RX3 3 ∈ TB := tbm 269 (by decide +kernel) (by decide +kernel)
theorem wo_RX3 : Cond.methodLink RX3 5 objectInit ∈ TB := tbm 273 (by decide +kernel) (by decide +kernel)
theorem wc_RX7_66 : Cond.classLink RX7 66 RX5 ∈ TB := tbm 287 (by decide +kernel) (by decide +kernel)
theorem wt_RX5 : Cond.instantiable RX5 3 ∈ TB := tbm 289 (by decide +kernel) (by decide +kernel)
theorem wo_RX5 : Cond.methodLink RX5 3 objectInit ∈ TB := tbm 293 (by decide +kernel) (by decide +kernel)
theorem wc_RL_10 : Cond.classLink RL 10 RX8 ∈ TB := tbm 812 (by decide +kernel) (by decide +kernel)
theorem wt_RX8 : Cond.instantiable RX8 37 ∈ TB := tbm 813 (by decide +kernel) (by decide +kernel)
theorem wmi_RL_12 : Cond.methodLink RL 12 yX8_init ∈ TB := tbm 814 (by decide +kernel) (by decide +kernel)
theorem wo_RX8 : Cond.methodLink RX8 1 objectInit ∈ TB := tbm 817 (by decide +kernel) (by decide +kernel)
theorem wo_1 : Cond.instanceMethod objectInit ∈ TB := tbm 86 (by decide +kernel) (by decide +kernel)
theorem wo_2 : Cond.code objectInit ⟨#[0xb1]⟩ 1 none ∈ TB := tbm 87 (by decide +kernel) (by decide +kernel)
theorem wa_int : Cond.arrayClass .int ∈ TB := tbm 130 (by decide +kernel) (by decide +kernel)
theorem wa_boolean : Cond.arrayClass .boolean ∈ TB := tbm 930 (by decide +kernel) (by decide +kernel)
theorem wa_long : Cond.arrayClass .long ∈ TB := tbm 286 (by decide +kernel) (by decide +kernel)
abbrev iX0_init : MI := (RX0, yX0_init, cX0_init, 1, none, 0)
theorem mi_X0 : MI0 iX0_init 0 := ⟨tbm 164 (by decide +kernel) (by decide +kernel), tbm 163 (by decide +kernel) (by decide +kernel), wz_RX0, rfl, by decide +kernel⟩
abbrev iX1_init : MI := (RX1, yX1_init, cX1_init, 2, none, 0)
theorem mi_X1 : MI0 iX1_init 1 := ⟨tbm 92 (by decide +kernel) (by decide +kernel), tbm 91 (by decide +kernel) (by decide +kernel), wz_RX1, rfl, by decide +kernel⟩
abbrev iX2_init : MI := (RX2, yX2_init, cX2_init, 3, none, 0)
theorem mi_X2 : MI0 iX2_init 2 := ⟨tbm 135 (by decide +kernel) (by decide +kernel), tbm 134 (by decide +kernel) (by decide +kernel), wz_RX2, rfl, by decide +kernel⟩
abbrev iX3_init : MI := (RX3, yX3_init, cX3_init, 1, none, 0)
theorem mi_X3 : MI0 iX3_init 0 := ⟨tbm 272 (by decide +kernel) (by decide +kernel), tbm 271 (by decide +kernel) (by decide +kernel), wz_RX3, rfl, by decide +kernel⟩
abbrev iX4_init : MI := (RX4, yX4_init, cX4_init, 2, none, 0)
theorem mi_X4 : MI0 iX4_init 1 := ⟨tbm 204 (by decide +kernel) (by decide +kernel), tbm 203 (by decide +kernel) (by decide +kernel), wz_RX4, rfl, by decide +kernel⟩
abbrev iX5_init : MI := (RX5, yX5_init, cX5_init, 1, none, 0)
theorem mi_X5 : MI0 iX5_init 0 := ⟨tbm 292 (by decide +kernel) (by decide +kernel), tbm 291 (by decide +kernel) (by decide +kernel), wz_RX5, rfl, by decide +kernel⟩
abbrev iX6_init : MI := (RX6, yX6_init, cX6_init, 1, none, 0)
theorem mi_X6 : MI0 iX6_init 0 := ⟨tbm 184 (by decide +kernel) (by decide +kernel), tbm 183 (by decide +kernel) (by decide +kernel), wz_RX6, rfl, by decide +kernel⟩
abbrev iX7_init : MI := (RX7, yX7_init, cX7_init, 2, none, 0)
theorem mi_X7 : MI0 iX7_init 0 := ⟨tbm 84 (by decide +kernel) (by decide +kernel), tbm 83 (by decide +kernel) (by decide +kernel), wz_RX7, rfl, by decide +kernel⟩
abbrev iX8_init : MI := (RX8, yX8_init, cX8_init, 1, none, 0)
theorem mi_X8 : MI0 iX8_init 0 := ⟨tbm 816 (by decide +kernel) (by decide +kernel), tbm 815 (by decide +kernel) (by decide +kernel), wz_RX8, rfl, by decide +kernel⟩
abbrev rmC (f c s : Nat) : Room := { frames := f, cells := c, slots := s, locals := 20 + 60 * (f - 1) }
theorem app_set (L : va_W) (y x : Nat × va_E) (R : va_W) : (L ++ y :: R).set L.length x = L ++ x :: R := by
  rw [List.set_append_right _ _ (Nat.le_refl _), Nat.sub_self]
  rfl
theorem app_get (L : va_W) (y : Nat × va_E) (R : va_W) : (L ++ y :: R)[L.length]? = some y := by
  rw [List.getElem?_append_right (Nat.le_refl _), Nat.sub_self]
  rfl
