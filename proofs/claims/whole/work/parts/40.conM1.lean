/-! CONTRACTS. Printed by wip/whole/gen/mkall.py out of the Java text. -/
set_option maxHeartbeats 4000000 in
set_option maxRecDepth 100000 in
theorem c_X8_in {l : Launch} {w : WC} {v_ : Int32} {low_ : Int32} {high_ : Int32} {z : Sg} {r0 : Int32} (hf : f_X8_in v_ low_ high_ = some r0) : CT true l iX8_in w [.int v_, .int low_, .int high_] z (some (.int r0)) z := by
  refine ct_of 0 (lv := [some (.int v_), some (.int low_), some (.int high_)]) (by decide +kernel) rfl (Nat.le_of_ble_eq_true rfl) rfl (fun M hl hw hE => ?_)
  subst hl
  subst hw
  unfold f_X8_in at hf
  obtain ⟨x1, hx2, hf⟩ := b1_of hf
  have hJ3 : G true iX8_in M (some (.int r0), z) 15 [some (.int v_), some (.int low_), some (.int high_)] [.int x1] z := by
    obtain ⟨h4, hf⟩ := ck_of hf
    obtain rfl := so1 hf
    exact g_zret hE rfl (bz_nar h4) dX8_in_15
  replace hf := hx2
  clear hx2
  refine g_iload_n hE dX8_in_0 rfl ?_
  refine g_iload_n hE dX8_in_1 rfl ?_
  refine g_icmp_lt 14 hE dX8_in_2 (by decide) (fun h5 => ?_) (fun h5 => ?_)
  · replace hf := it_f hf (cv_nge h5)
    refine g_iconst hE (0) dX8_in_14 (by decide) ?_
    obtain rfl := so1 hf
    exact hJ3
  · replace hf := it_t hf (cv_ge h5)
    refine g_iload_n hE dX8_in_5 rfl ?_
    refine g_iload_n hE dX8_in_6 rfl ?_
    refine g_icmp_gt 14 hE dX8_in_7 (by decide) (fun h6 => ?_) (fun h6 => ?_)
    · replace hf := it_f hf (cv_nge h6)
      refine g_iconst hE (0) dX8_in_14 (by decide) ?_
      obtain rfl := so1 hf
      exact hJ3
    · replace hf := it_t hf (cv_ge h6)
      refine g_iconst hE (1) dX8_in_10 (by decide) ?_
      refine g_goto 15 hE dX8_in_11 (by decide) ?_
      obtain rfl := so1 hf
      exact hJ3
set_option maxHeartbeats 4000000 in
set_option maxRecDepth 100000 in
theorem c_X8_isIn {l : Launch} {w : WC} {bits_ : Int32} {k_ : Int32} {z : Sg} {r0 : Int32} (hf : f_X8_isIn bits_ k_ = some r0) : CT true l iX8_isIn w [.int bits_, .int k_] z (some (.int r0)) z := by
  refine ct_of 0 (lv := [some (.int bits_), some (.int k_)]) (by decide +kernel) rfl (Nat.le_of_ble_eq_true rfl) rfl (fun M hl hw hE => ?_)
  subst hl
  subst hw
  unfold f_X8_isIn at hf
  obtain ⟨x1, hx2, hf⟩ := b1_of hf
  have hJ3 : G true iX8_isIn M (some (.int r0), z) 14 [some (.int bits_), some (.int k_)] [.int x1] z := by
    obtain ⟨h4, hf⟩ := ck_of hf
    obtain rfl := so1 hf
    exact g_zret hE rfl (bz_nar h4) dX8_isIn_14
  replace hf := hx2
  clear hx2
  refine g_iload_n hE dX8_isIn_0 rfl ?_
  refine g_iload_n hE dX8_isIn_1 rfl ?_
  refine g_ishr hE dX8_isIn_2 ?_
  refine g_iconst hE (1) dX8_isIn_3 (by decide) ?_
  refine g_iand hE dX8_isIn_4 ?_
  refine g_iconst hE (1) dX8_isIn_5 (by decide) ?_
  refine g_icmp_ne 13 hE dX8_isIn_6 (by decide) (fun h5 => ?_) (fun h5 => ?_)
  · replace hf := it_f hf h5
    refine g_iconst hE (0) dX8_isIn_13 (by decide) ?_
    obtain rfl := so1 hf
    exact hJ3
  · replace hf := it_t hf h5
    refine g_iconst hE (1) dX8_isIn_9 (by decide) ?_
    refine g_goto 14 hE dX8_isIn_10 (by decide) ?_
    obtain rfl := so1 hf
    exact hJ3
set_option maxHeartbeats 4000000 in
set_option maxRecDepth 100000 in
theorem c_X8_ones {l : Launch} {w : WC} {bits_ : Int32} {z : Sg} {r0 : Int32} (hf : f_X8_ones bits_ = some r0) : CT true l iX8_ones w [.int bits_] z (some (.int r0)) z := by
  refine ct_of 2 (lv := [some (.int bits_), none, none]) (by decide +kernel) rfl (Nat.le_of_ble_eq_true rfl) rfl (fun M hl hw hE => ?_)
  subst hl
  subst hw
  unfold f_X8_ones at hf
  refine g_iconst hE (0) dX8_ones_0 (by decide) ?_
  refine g_istore_n [some _, some _, none] hE dX8_ones_1 (by decide) rfl ?_
  refine g_iconst hE (0) dX8_ones_2 (by decide) ?_
  refine g_istore_n [some _, some _, some _] hE dX8_ones_3 (by decide) rfl ?_
  obtain ⟨n_8, hx6, hf⟩ := b1_of hf
  have hJ7 : G true iX8_ones M (some (.int r0), z) 24 [some (.int bits_), some (.int n_8), none] [] z := by
    refine g_iload_n hE dX8_ones_24 rfl ?_
    obtain rfl := so1 hf
    exact g_iret hE rfl dX8_ones_25
  clear hf
  have hl3 : ∀ (n5 : Nat) (n_1 : Int32) (k_2 : Int32), f_X8_ones_lp1 bits_ n5 n_1 k_2 = some n_8 → G true iX8_ones M (some (.int r0), z) 4 [some (.int bits_), some (.int n_1), some (.int k_2)] [] z := by
    intro n5
    induction n5 with
    | zero => intro n_1 k_2 hf; cases hf
    | succ n5 ih4 =>
      intro n_1 k_2 hf
      rw [f_X8_ones_lp1] at hf
      refine g_iload_n hE dX8_ones_4 rfl ?_
      refine g_bipush hE (8) dX8_ones_5 (by decide) ?_
      refine g_icmp_ge 24 hE dX8_ones_7 (by decide) (fun h9 => ?_) (fun h9 => ?_)
      · replace hf := it_f hf (cv_ngt h9)
        obtain rfl := so1 hf
        exact g_wk [true, true, false] rfl hJ7
      · replace hf := it_t hf (cv_gt h9)
        refine g_iload_n hE dX8_ones_10 rfl ?_
        refine g_iload_n hE dX8_ones_11 rfl ?_
        refine g_iload_n hE dX8_ones_12 rfl ?_
        refine g_ishr hE dX8_ones_13 ?_
        refine g_iconst hE (1) dX8_ones_14 (by decide) ?_
        refine g_iand hE dX8_ones_15 ?_
        refine g_iadd hE dX8_ones_16 ?_
        refine g_istore_n [some _, some _, some _] hE dX8_ones_17 (by decide) rfl ?_
        refine g_iinc [some _, some _, some _] hE (k_2 + (1 : Int32)) dX8_ones_18 rfl rfl (by decide) rfl ?_
        refine g_goto 4 hE dX8_ones_21 (by decide) ?_
        exact (ih4 _ _ hf)
  exact hl3 _ _ _ hx6
set_option maxHeartbeats 4000000 in
set_option maxRecDepth 100000 in
theorem c_X8_no {l : Launch} {w : WC} {refusal_ : Int32} {z : Sg} {r0 : Int64} (hf : f_X8_no refusal_ = some r0) : CT true l iX8_no w [.int refusal_] z (some (.long r0)) z := by
  refine ct_of 0 (lv := [some (.int refusal_)]) (by decide +kernel) rfl (Nat.le_of_ble_eq_true rfl) rfl (fun M hl hw hE => ?_)
  subst hl
  subst hw
  unfold f_X8_no at hf
  refine g_ldc2 hE wk_RX8_96 dX8_no_0 ?_
  refine g_iload_n hE dX8_no_3 rfl ?_
  refine g_i2l hE dX8_no_4 ?_
  refine g_lsub hE dX8_no_5 ?_
  obtain rfl := so1 hf
  exact g_lret hE rfl dX8_no_6
set_option maxHeartbeats 4000000 in
set_option maxRecDepth 100000 in
theorem c_X8_lowest {l : Launch} {w : WC} {top_ : Int64} {bottom_ : Int64} {what_ : Int32} {z : Sg} {r0 : Int64} (hf : f_X8_lowest top_ bottom_ what_ = some r0) : CT true l iX8_lowest w [.long top_, .long bottom_, .int what_] z (some (.long r0)) z := by
  refine ct_of 6 (lv := [some (.long top_), none, some (.long bottom_), none, some (.int what_), none, none, none, none, none, none]) (by decide +kernel) rfl (Nat.le_of_ble_eq_true rfl) rfl (fun M hl hw hE => ?_)
  subst hl
  subst hw
  unfold f_X8_lowest at hf
  refine g_lload_n hE dX8_lowest_0 rfl ?_
  refine g_lstore [some _, none, some _, none, some _, some _, none, none, none, none, none] hE dX8_lowest_1 (by decide) rfl ?_
  refine g_lload_n hE dX8_lowest_3 rfl ?_
  refine g_lstore [some _, none, some _, none, some _, some _, none, some _, none, none, none] hE dX8_lowest_4 (by decide) rfl ?_
  obtain ⟨x_8, y_9, hx6, hf⟩ := b2_of hf
  have hJ7 : G true iX8_lowest M (some (.long r0), z) 31 [some (.long top_), none, some (.long bottom_), none, some (.int what_), some (.long x_8), none, some (.long y_9), none, none, none] [] z := by
    obtain ⟨x10, hx11, hf⟩ := b1_of hf
    have hJ12 : G true iX8_lowest M (some (.long r0), z) 47 [some (.long top_), none, some (.long bottom_), none, some (.int what_), some (.long x_8), none, some (.long y_9), none, none, none] [.long x10] z := by
      obtain rfl := so1 hf
      exact g_lret hE rfl dX8_lowest_47
    replace hf := hx11
    clear hx11
    refine g_iload hE dX8_lowest_31 rfl ?_
    refine g_if_ne 43 hE dX8_lowest_33 (by decide) (fun h13 => ?_) (fun h13 => ?_)
    · replace hf := it_f hf h13
      refine g_lload_n hE dX8_lowest_43 rfl ?_
      refine g_lload hE dX8_lowest_44 rfl ?_
      obtain ⟨h14, hf⟩ := ck_of hf
      refine g_ldiv hE dX8_lowest_46 h14 ?_
      obtain rfl := so1 hf
      exact hJ12
    · replace hf := it_t hf h13
      refine g_lload_n hE dX8_lowest_36 rfl ?_
      refine g_lload hE dX8_lowest_37 rfl ?_
      obtain ⟨h15, hf⟩ := ck_of hf
      refine g_ldiv hE dX8_lowest_39 h15 ?_
      refine g_goto 47 hE dX8_lowest_40 (by decide) ?_
      obtain rfl := so1 hf
      exact hJ12
  clear hf
  have hl3 : ∀ (n5 : Nat) (x_1 : Int64) (y_2 : Int64), f_X8_lowest_lp1  n5 x_1 y_2 = some (x_8, y_9) → G true iX8_lowest M (some (.long r0), z) 6 [some (.long top_), none, some (.long bottom_), none, some (.int what_), some (.long x_1), none, some (.long y_2), none, none, none] [] z := by
    intro n5
    induction n5 with
    | zero => intro x_1 y_2 hf; cases hf
    | succ n5 ih4 =>
      intro x_1 y_2 hf
      rw [f_X8_lowest_lp1] at hf
      refine g_lload hE dX8_lowest_6 rfl ?_
      refine g_lconst hE 0 dX8_lowest_8 rfl ?_
      refine g_lcmp hE dX8_lowest_9 ?_
      refine g_if_eq 31 hE dX8_lowest_10 (by decide) (fun h16 => ?_) (fun h16 => ?_)
      · replace hf := it_f hf (fun q => q h16)
        obtain ⟨rfl, rfl⟩ := so2 hf
        exact hJ7
      · replace hf := it_t hf h16
        refine g_lload hE dX8_lowest_13 rfl ?_
        refine g_lload hE dX8_lowest_15 rfl ?_
        obtain ⟨h17, hf⟩ := ck_of hf
        refine g_lrem hE dX8_lowest_17 h17 ?_
        refine g_lstore [some _, none, some _, none, some _, some _, none, some _, none, some _, none] hE dX8_lowest_18 (by decide) rfl ?_
        refine g_lload hE dX8_lowest_20 rfl ?_
        refine g_lstore [some _, none, some _, none, some _, some _, none, some _, none, some _, none] hE dX8_lowest_22 (by decide) rfl ?_
        refine g_lload hE dX8_lowest_24 rfl ?_
        refine g_lstore [some _, none, some _, none, some _, some _, none, some _, none, some _, none] hE dX8_lowest_26 (by decide) rfl ?_
        refine g_wk [true, false, true, false, true, true, false, true, false, false, false] rfl ?_
        refine g_goto 6 hE dX8_lowest_28 (by decide) ?_
        exact (ih4 _ _ hf)
  exact hl3 _ _ _ hx6
set_option maxHeartbeats 4000000 in
set_option maxRecDepth 100000 in
theorem c_X8_isText {l : Launch} {w : WC} {t_ : Int32} {z : Sg} {r0 : Int32} (hf : f_X8_isText t_ = some r0) : CT true l iX8_isText w [.int t_] z (some (.int r0)) z := by
  refine ct_of 0 (lv := [some (.int t_)]) (by decide +kernel) rfl (Nat.le_of_ble_eq_true rfl) rfl (fun M hl hw hE => ?_)
  subst hl
  subst hw
  unfold f_X8_isText at hf
  refine g_iload_n hE dX8_isText_0 rfl ?_
  refine g_iconst hE (0) dX8_isText_1 (by decide) ?_
  refine g_iconst hE (1) dX8_isText_2 (by decide) ?_
  obtain ⟨r2, hc1, hf⟩ := b1_of hf
  refine g_callS3r hE ms_X8_in wm_RX8_98 (by decide) (Nat.le_of_ble_eq_true rfl) dX8_isText_3 (c_X8_in hc1) ?_
  obtain ⟨h3, hf⟩ := ck_of hf
  obtain rfl := so1 hf
  exact g_zret hE rfl (bz_nar h3) dX8_isText_6
set_option maxHeartbeats 4000000 in
set_option maxRecDepth 100000 in
theorem c_X8_isEight {l : Launch} {w : WC} {k_ : Int32} {z : Sg} {r0 : Int32} (hf : f_X8_isEight k_ = some r0) : CT true l iX8_isEight w [.int k_] z (some (.int r0)) z := by
  refine ct_of 0 (lv := [some (.int k_)]) (by decide +kernel) rfl (Nat.le_of_ble_eq_true rfl) rfl (fun M hl hw hE => ?_)
  subst hl
  subst hw
  unfold f_X8_isEight at hf
  refine g_iload_n hE dX8_isEight_0 rfl ?_
  refine g_iconst hE (0) dX8_isEight_1 (by decide) ?_
  refine g_bipush hE (7) dX8_isEight_2 (by decide) ?_
  obtain ⟨r2, hc1, hf⟩ := b1_of hf
  refine g_callS3r hE ms_X8_in wm_RX8_98 (by decide) (Nat.le_of_ble_eq_true rfl) dX8_isEight_4 (c_X8_in hc1) ?_
  obtain ⟨h3, hf⟩ := ck_of hf
  obtain rfl := so1 hf
  exact g_zret hE rfl (bz_nar h3) dX8_isEight_7
set_option maxHeartbeats 4000000 in
set_option maxRecDepth 100000 in
theorem c_X8_isWeek {l : Launch} {w : WC} {w_ : Int32} {z : Sg} {r0 : Int32} (hf : f_X8_isWeek w_ = some r0) : CT true l iX8_isWeek w [.int w_] z (some (.int r0)) z := by
  refine ct_of 0 (lv := [some (.int w_)]) (by decide +kernel) rfl (Nat.le_of_ble_eq_true rfl) rfl (fun M hl hw hE => ?_)
  subst hl
  subst hw
  unfold f_X8_isWeek at hf
  refine g_iload_n hE dX8_isWeek_0 rfl ?_
  refine g_iconst hE (0) dX8_isWeek_1 (by decide) ?_
  refine g_bipush hE (39) dX8_isWeek_2 (by decide) ?_
  obtain ⟨r2, hc1, hf⟩ := b1_of hf
  refine g_callS3r hE ms_X8_in wm_RX8_98 (by decide) (Nat.le_of_ble_eq_true rfl) dX8_isWeek_4 (c_X8_in hc1) ?_
  obtain ⟨h3, hf⟩ := ck_of hf
  obtain rfl := so1 hf
  exact g_zret hE rfl (bz_nar h3) dX8_isWeek_7
set_option maxHeartbeats 4000000 in
set_option maxRecDepth 100000 in
theorem c_X8_type {l : Launch} {w : WC} {text_ : Int32} {b_ : Int32} {z : Sg} {r0 : Int32} {z0 : Sg} (hf : f_X8_type text_ b_ z = some (r0, z0)) : CT true l iX8_type w [.ref 0, .int text_, .int b_] z (some (.int r0)) z0 := by
  refine ct_of 0 (lv := [some (.ref 0), some (.int text_), some (.int b_)]) (by decide +kernel) rfl (Nat.le_of_ble_eq_true rfl) rfl (fun M hl hw hE => ?_)
  subst hl
  subst hw
  unfold f_X8_type at hf
  obtain ⟨q1, hx2, hf⟩ := b1_of hf
  have hT3 : q1 = true → G true iX8_type M (some (.int r0), z0) 18 [some (.ref 0), some (.int text_), some (.int b_)] [] z := by
    intro hq5
    replace hf := it_t hf hq5
    refine g_bipush hE (-2) dX8_type_18 (by decide) ?_
    obtain ⟨rfl, rfl⟩ := so2 hf
    exact g_iret hE rfl dX8_type_20
  have hF4 : q1 = false → G true iX8_type M (some (.int r0), z0) 21 [some (.ref 0), some (.int text_), some (.int b_)] [] z := by
    intro hq5
    replace hf := it_f hf (by rw [hq5]; decide)
    refine g_aload_n hE dX8_type_21 rfl ?_
    refine gtX8_0 hE kM_0 wf_RX8_7 dX8_type_22 ?_
    refine g_iload_n hE dX8_type_25 rfl ?_
    obtain ⟨h6, hf⟩ := ck_of hf
    refine g_iald hE kM_1 h6 dX8_type_26 ?_
    refine g_bipush hE (47) dX8_type_27 (by decide) ?_
    refine g_icmp_ne 35 hE dX8_type_29 (by decide) (fun h7 => ?_) (fun h7 => ?_)
    · replace hf := it_f hf h7
      refine g_aload_n hE dX8_type_35 rfl ?_
      refine gtX8_1 hE kM_0 wf_RX8_13 dX8_type_36 ?_
      refine g_bipush hE (47) dX8_type_39 (by decide) ?_
      refine g_iload_n hE dX8_type_41 rfl ?_
      refine g_imul hE dX8_type_42 ?_
      refine g_aload_n hE dX8_type_43 rfl ?_
      refine gtX8_0 hE kM_0 wf_RX8_7 dX8_type_44 ?_
      refine g_iload_n hE dX8_type_47 rfl ?_
      obtain ⟨h8, hf⟩ := ck_of hf
      refine g_iald hE kM_1 h8 dX8_type_48 ?_
      refine g_iadd hE dX8_type_49 ?_
      refine g_iload_n hE dX8_type_50 rfl ?_
      obtain ⟨h9, hf⟩ := ck_of hf
      refine g_iast hE kM_2 h9 dX8_type_51 ?_
      refine g_aload_n hE dX8_type_52 rfl ?_
      refine gtX8_0 hE kM_0 wf_RX8_7 dX8_type_53 ?_
      refine g_iload_n hE dX8_type_56 rfl ?_
      refine g_dup2 hE dX8_type_57 rfl rfl ?_
      obtain ⟨h10, hf⟩ := ck_of hf
      refine g_iald hE kM_1 h10 dX8_type_58 ?_
      refine g_iconst hE (1) dX8_type_59 (by decide) ?_
      refine g_iadd hE dX8_type_60 ?_
      obtain ⟨h11, hf⟩ := ck_of hf
      refine g_iast hE kM_1 h11 dX8_type_61 ?_
      refine g_aload_n hE dX8_type_62 rfl ?_
      refine gtX8_0 hE kM_0 wf_RX8_7 dX8_type_63 ?_
      refine g_iload_n hE dX8_type_66 rfl ?_
      obtain ⟨h12, hf⟩ := ck_of hf
      refine g_iald hE kM_1 h12 dX8_type_67 ?_
      obtain ⟨rfl, rfl⟩ := so2 hf
      exact g_iret hE rfl dX8_type_68
    · replace hf := it_t hf h7
      refine g_bipush hE (-4) dX8_type_32 (by decide) ?_
      obtain ⟨rfl, rfl⟩ := so2 hf
      exact g_iret hE rfl dX8_type_34
  replace hf := hx2
  clear hx2
  refine g_iload_n hE dX8_type_0 rfl ?_
  obtain ⟨r14, hc13, hf⟩ := b1_of hf
  refine g_callS1r hE ms_X8_isText wm_RX8_102 (by decide) (Nat.le_of_ble_eq_true rfl) dX8_type_1 (c_X8_isText hc13) ?_
  refine g_if_eq 18 hE dX8_type_4 (by decide) (fun h15 => ?_) (fun h15 => ?_)
  · replace hf := it_f hf (fun q => q h15)
    obtain rfl := so1 hf
    exact hT3 rfl
  · replace hf := it_t hf h15
    refine g_iload_n hE dX8_type_7 rfl ?_
    refine g_iconst hE (0) dX8_type_8 (by decide) ?_
    refine g_sipush hE (255) dX8_type_9 (by decide) ?_
    obtain ⟨r17, hc16, hf⟩ := b1_of hf
    refine g_callS3r hE ms_X8_in wm_RX8_98 (by decide) (Nat.le_of_ble_eq_true rfl) dX8_type_12 (c_X8_in hc16) ?_
    refine g_if_ne 21 hE dX8_type_15 (by decide) (fun h18 => ?_) (fun h18 => ?_)
    · replace hf := it_t hf h18
      obtain rfl := so1 hf
      exact hF4 rfl
    · replace hf := it_f hf (fun q => q h18)
      obtain rfl := so1 hf
      exact hT3 rfl
set_option maxHeartbeats 4000000 in
set_option maxRecDepth 100000 in
theorem c_X8_wipe {l : Launch} {w : WC} {text_ : Int32} {z : Sg} {r0 : Int32} {z0 : Sg} (hf : f_X8_wipe text_ z = some (r0, z0)) : CT true l iX8_wipe w [.ref 0, .int text_] z (some (.int r0)) z0 := by
  refine ct_of 1 (lv := [some (.ref 0), some (.int text_), none]) (by decide +kernel) rfl (Nat.le_of_ble_eq_true rfl) rfl (fun M hl hw hE => ?_)
  subst hl
  subst hw
  unfold f_X8_wipe at hf
  refine g_iload_n hE dX8_wipe_0 rfl ?_
  obtain ⟨r2, hc1, hf⟩ := b1_of hf
  refine g_callS1r hE ms_X8_isText wm_RX8_102 (by decide) (Nat.le_of_ble_eq_true rfl) dX8_wipe_1 (c_X8_isText hc1) ?_
  refine g_if_ne 10 hE dX8_wipe_4 (by decide) (fun h3 => ?_) (fun h3 => ?_)
  · replace hf := it_t hf h3
    refine g_aload_n hE dX8_wipe_10 rfl ?_
    refine gtX8_0 hE kM_0 wf_RX8_7 dX8_wipe_11 ?_
    refine g_iload_n hE dX8_wipe_14 rfl ?_
    obtain ⟨h4, hf⟩ := ck_of hf
    refine g_iald hE kM_1 h4 dX8_wipe_15 ?_
    refine g_istore_n [some _, some _, some _] hE dX8_wipe_16 (by decide) rfl ?_
    refine g_aload_n hE dX8_wipe_17 rfl ?_
    refine gtX8_0 hE kM_0 wf_RX8_7 dX8_wipe_18 ?_
    refine g_iload_n hE dX8_wipe_21 rfl ?_
    refine g_iconst hE (0) dX8_wipe_22 (by decide) ?_
    obtain ⟨h5, hf⟩ := ck_of hf
    refine g_iast hE kM_1 h5 dX8_wipe_23 ?_
    refine g_iload_n hE dX8_wipe_24 rfl ?_
    obtain ⟨rfl, rfl⟩ := so2 hf
    exact g_iret hE rfl dX8_wipe_25
  · replace hf := it_f hf (fun q => q h3)
    refine g_bipush hE (-2) dX8_wipe_7 (by decide) ?_
    obtain ⟨rfl, rfl⟩ := so2 hf
    exact g_iret hE rfl dX8_wipe_9
set_option maxHeartbeats 4000000 in
set_option maxRecDepth 100000 in
theorem c_X8_undo {l : Launch} {w : WC} {text_ : Int32} {z : Sg} {r0 : Int32} {z0 : Sg} (hf : f_X8_undo text_ z = some (r0, z0)) : CT true l iX8_undo w [.ref 0, .int text_] z (some (.int r0)) z0 := by
  refine ct_of 0 (lv := [some (.ref 0), some (.int text_)]) (by decide +kernel) rfl (Nat.le_of_ble_eq_true rfl) rfl (fun M hl hw hE => ?_)
  subst hl
  subst hw
  unfold f_X8_undo at hf
  refine g_iload_n hE dX8_undo_0 rfl ?_
  obtain ⟨r2, hc1, hf⟩ := b1_of hf
  refine g_callS1r hE ms_X8_isText wm_RX8_102 (by decide) (Nat.le_of_ble_eq_true rfl) dX8_undo_1 (c_X8_isText hc1) ?_
  refine g_if_ne 10 hE dX8_undo_4 (by decide) (fun h3 => ?_) (fun h3 => ?_)
  · replace hf := it_t hf h3
    refine g_aload_n hE dX8_undo_10 rfl ?_
    refine gtX8_0 hE kM_0 wf_RX8_7 dX8_undo_11 ?_
    refine g_iload_n hE dX8_undo_14 rfl ?_
    obtain ⟨h4, hf⟩ := ck_of hf
    refine g_iald hE kM_1 h4 dX8_undo_15 ?_
    refine g_if_ne 22 hE dX8_undo_16 (by decide) (fun h5 => ?_) (fun h5 => ?_)
    · replace hf := it_f hf h5
      refine g_aload_n hE dX8_undo_22 rfl ?_
      refine gtX8_0 hE kM_0 wf_RX8_7 dX8_undo_23 ?_
      refine g_iload_n hE dX8_undo_26 rfl ?_
      refine g_dup2 hE dX8_undo_27 rfl rfl ?_
      obtain ⟨h6, hf⟩ := ck_of hf
      refine g_iald hE kM_1 h6 dX8_undo_28 ?_
      refine g_iconst hE (1) dX8_undo_29 (by decide) ?_
      refine g_isub hE dX8_undo_30 ?_
      obtain ⟨h7, hf⟩ := ck_of hf
      refine g_iast hE kM_1 h7 dX8_undo_31 ?_
      refine g_aload_n hE dX8_undo_32 rfl ?_
      refine gtX8_0 hE kM_0 wf_RX8_7 dX8_undo_33 ?_
      refine g_iload_n hE dX8_undo_36 rfl ?_
      obtain ⟨h8, hf⟩ := ck_of hf
      refine g_iald hE kM_1 h8 dX8_undo_37 ?_
      obtain ⟨rfl, rfl⟩ := so2 hf
      exact g_iret hE rfl dX8_undo_38
    · replace hf := it_t hf h5
      refine g_bipush hE (-3) dX8_undo_19 (by decide) ?_
      obtain ⟨rfl, rfl⟩ := so2 hf
      exact g_iret hE rfl dX8_undo_21
  · replace hf := it_f hf (fun q => q h3)
    refine g_bipush hE (-2) dX8_undo_7 (by decide) ?_
    obtain ⟨rfl, rfl⟩ := so2 hf
    exact g_iret hE rfl dX8_undo_9
set_option maxHeartbeats 4000000 in
set_option maxRecDepth 100000 in
theorem c_X8_readsOne {l : Launch} {w : WC} {text_ : Int32} {n_ : Int32} {at_ : Int32} {z : Sg} {r0 : Int32} {z0 : Sg} (hf : f_X8_readsOne text_ n_ at_ z = some (r0, z0)) : CT true l iX8_readsOne w [.ref 0, .int text_, .int n_, .int at_] z (some (.int r0)) z0 := by
  refine ct_of 4 (lv := [some (.ref 0), some (.int text_), some (.int n_), some (.int at_), none, none, none, none]) (by decide +kernel) rfl (Nat.le_of_ble_eq_true rfl) rfl (fun M hl hw hE => ?_)
  subst hl
  subst hw
  unfold f_X8_readsOne at hf
  refine g_iconst hE (0) dX8_readsOne_0 (by decide) ?_
  refine g_istore [some _, some _, some _, some _, some _, none, none, none] hE dX8_readsOne_1 (by decide) rfl ?_
  refine g_iconst hE (0) dX8_readsOne_3 (by decide) ?_
  refine g_istore [some _, some _, some _, some _, some _, some _, none, none] hE dX8_readsOne_4 (by decide) rfl ?_
  refine g_iconst hE (0) dX8_readsOne_6 (by decide) ?_
  refine g_istore [some _, some _, some _, some _, some _, some _, some _, none] hE dX8_readsOne_7 (by decide) rfl ?_
  have hl4 : ∀ (n6 : Nat) (some_1 : Int32) (high_2 : Int32) (k_3 : Int32), f_X8_readsOne_lp1 text_ n_ at_ z n6 some_1 high_2 k_3 = some (r0, z0) → G true iX8_readsOne M (some (.int r0), z0) 9 [some (.ref 0), some (.int text_), some (.int n_), some (.int at_), some (.int some_1), some (.int high_2), some (.int k_3), none] [] z := by
    intro n6
    induction n6 with
    | zero => intro some_1 high_2 k_3 hf; cases hf
    | succ n6 ih5 =>
      intro some_1 high_2 k_3 hf
      rw [f_X8_readsOne_lp1] at hf
      refine g_iload hE dX8_readsOne_9 rfl ?_
      refine g_iconst hE (4) dX8_readsOne_11 (by decide) ?_
      refine g_icmp_ge 122 hE dX8_readsOne_12 (by decide) (fun h7 => ?_) (fun h7 => ?_)
      · replace hf := it_f hf (cv_ngt h7)
        refine g_wk [true, true, true, true, true, true, false, false] rfl ?_
        obtain ⟨x8, hx9, hf⟩ := b1_of hf
        have hJ10 : G true iX8_readsOne M (some (.int r0), z0) 154 [some (.ref 0), some (.int text_), some (.int n_), some (.int at_), some (.int some_1), some (.int high_2), none, none] [.int x8] z := by
          refine g_istore [some _, some _, some _, some _, some _, some _, some _, none] hE dX8_readsOne_154 (by decide) rfl ?_
          refine g_iload hE dX8_readsOne_156 rfl ?_
          refine g_iconst hE (0) dX8_readsOne_158 (by decide) ?_
          refine g_bipush hE (9) dX8_readsOne_159 (by decide) ?_
          obtain ⟨r12, hc11, hf⟩ := b1_of hf
          refine g_callS3r hE ms_X8_in wm_RX8_98 (by decide) (Nat.le_of_ble_eq_true rfl) dX8_readsOne_161 (c_X8_in hc11) ?_
          refine g_if_ne 169 hE dX8_readsOne_164 (by decide) (fun h13 => ?_) (fun h13 => ?_)
          · replace hf := it_t hf h13
            obtain ⟨z16, hx14, hf⟩ := b1_of hf
            have hJ15 : G true iX8_readsOne M (some (.int r0), z0) 216 [some (.ref 0), some (.int text_), some (.int n_), some (.int at_), some (.int some_1), some (.int high_2), some (.int x8), none] [] z16 := by
              refine g_iconst hE (5) dX8_readsOne_216 (by decide) ?_
              obtain ⟨rfl, rfl⟩ := so2 hf
              exact g_iret hE rfl dX8_readsOne_217
            replace hf := hx14
            clear hx14
            refine g_iload_n hE dX8_readsOne_169 rfl ?_
            refine g_if_ne 192 hE dX8_readsOne_170 (by decide) (fun h17 => ?_) (fun h17 => ?_)
            · replace hf := it_f hf h17
              refine g_aload_n hE dX8_readsOne_192 rfl ?_
              refine gtX8_6 hE kM_0 wf_RX8_22 dX8_readsOne_193 ?_
              refine g_iload_n hE dX8_readsOne_196 rfl ?_
              refine g_iload hE dX8_readsOne_197 rfl ?_
              obtain ⟨h18, hf⟩ := ck_of hf
              refine g_iast hE kM_5 h18 dX8_readsOne_199 ?_
              refine g_aload_n hE dX8_readsOne_200 rfl ?_
              refine gtX8_7 hE kM_0 wf_RX8_25 dX8_readsOne_201 ?_
              refine g_iload_n hE dX8_readsOne_204 rfl ?_
              refine g_iload hE dX8_readsOne_205 rfl ?_
              obtain ⟨h19, hf⟩ := ck_of hf
              refine g_iast hE kM_6 h19 dX8_readsOne_207 ?_
              refine g_aload_n hE dX8_readsOne_208 rfl ?_
              refine gtX8_8 hE kM_0 wf_RX8_28 dX8_readsOne_209 ?_
              refine g_iload_n hE dX8_readsOne_212 rfl ?_
              refine g_iload hE dX8_readsOne_213 rfl ?_
              obtain ⟨h20, hf⟩ := ck_of hf
              refine g_iast hE kM_7 h20 dX8_readsOne_215 ?_
              obtain rfl := so1 hf
              exact hJ15
            · replace hf := it_t hf h17
              refine g_aload_n hE dX8_readsOne_173 rfl ?_
              refine gtX8_3 hE kM_0 wf_RX8_16 dX8_readsOne_174 ?_
              refine g_iload_n hE dX8_readsOne_177 rfl ?_
              refine g_iload hE dX8_readsOne_178 rfl ?_
              obtain ⟨h21, hf⟩ := ck_of hf
              refine g_iast hE kM_3 h21 dX8_readsOne_180 ?_
              refine g_aload_n hE dX8_readsOne_181 rfl ?_
              refine gtX8_4 hE kM_0 wf_RX8_19 dX8_readsOne_182 ?_
              refine g_iload_n hE dX8_readsOne_185 rfl ?_
              refine g_iload hE dX8_readsOne_186 rfl ?_
              obtain ⟨h22, hf⟩ := ck_of hf
              refine g_iast hE kM_4 h22 dX8_readsOne_188 ?_
              refine g_goto 216 hE dX8_readsOne_189 (by decide) ?_
              obtain rfl := so1 hf
              exact hJ15
          · replace hf := it_f hf (fun q => q h13)
            refine g_iconst hE (4) dX8_readsOne_167 (by decide) ?_
            obtain ⟨rfl, rfl⟩ := so2 hf
            exact g_iret hE rfl dX8_readsOne_168
        replace hf := hx9
        clear hx9
        refine g_iload_n hE dX8_readsOne_122 rfl ?_
        refine g_iconst hE (4) dX8_readsOne_123 (by decide) ?_
        refine g_iadd hE dX8_readsOne_124 ?_
        refine g_aload_n hE dX8_readsOne_125 rfl ?_
        refine gtX8_0 hE kM_0 wf_RX8_7 dX8_readsOne_126 ?_
        refine g_iload_n hE dX8_readsOne_129 rfl ?_
        obtain ⟨h23, hf⟩ := ck_of hf
        refine g_iald hE kM_1 h23 dX8_readsOne_130 ?_
        refine g_icmp_ge 153 hE dX8_readsOne_131 (by decide) (fun h24 => ?_) (fun h24 => ?_)
        · replace hf := it_f hf (cv_ngt h24)
          refine g_iconst hE (-1) dX8_readsOne_153 (by decide) ?_
          obtain rfl := so1 hf
          exact hJ10
        · replace hf := it_t hf (cv_gt h24)
          refine g_aload_n hE dX8_readsOne_134 rfl ?_
          refine gtX8_1 hE kM_0 wf_RX8_13 dX8_readsOne_135 ?_
          refine g_bipush hE (47) dX8_readsOne_138 (by decide) ?_
          refine g_iload_n hE dX8_readsOne_140 rfl ?_
          refine g_imul hE dX8_readsOne_141 ?_
          refine g_iload_n hE dX8_readsOne_142 rfl ?_
          refine g_iadd hE dX8_readsOne_143 ?_
          refine g_iconst hE (4) dX8_readsOne_144 (by decide) ?_
          refine g_iadd hE dX8_readsOne_145 ?_
          obtain ⟨h25, hf⟩ := ck_of hf
          refine g_iald hE kM_2 h25 dX8_readsOne_146 ?_
          refine g_bipush hE (48) dX8_readsOne_147 (by decide) ?_
          refine g_isub hE dX8_readsOne_149 ?_
          refine g_goto 154 hE dX8_readsOne_150 (by decide) ?_
          obtain rfl := so1 hf
          exact hJ10
      · replace hf := it_t hf (cv_gt h7)
        obtain ⟨x26, hx27, hf⟩ := b1_of hf
        have hJ28 : G true iX8_readsOne M (some (.int r0), z0) 46 [some (.ref 0), some (.int text_), some (.int n_), some (.int at_), some (.int some_1), some (.int high_2), some (.int k_3), none] [.int x26] z := by
          refine g_istore [some _, some _, some _, some _, some _, some _, some _, some _] hE dX8_readsOne_46 (by decide) rfl ?_
          obtain ⟨q29, hx30, hf⟩ := b1_of hf
          have hT31 : q29 = true → G true iX8_readsOne M (some (.int r0), z0) 73 [some (.ref 0), some (.int text_), some (.int n_), some (.int at_), some (.int some_1), some (.int high_2), some (.int k_3), some (.int x26)] [] z := by
            intro hq33
            replace hf := it_t hf hq33
            refine g_iload hE dX8_readsOne_73 rfl ?_
            obtain ⟨rfl, rfl⟩ := so2 hf
            exact g_iret hE rfl dX8_readsOne_75
          have hF32 : q29 = false → G true iX8_readsOne M (some (.int r0), z0) 76 [some (.ref 0), some (.int text_), some (.int n_), some (.int at_), some (.int some_1), some (.int high_2), some (.int k_3), some (.int x26)] [] z := by
            intro hq33
            replace hf := it_f hf (by rw [hq33]; decide)
            refine g_iload hE dX8_readsOne_76 rfl ?_
            obtain ⟨x34, hx35, hf⟩ := b1_of hf
            have hJ36 : G true iX8_readsOne M (some (.int r0), z0) 93 [some (.ref 0), some (.int text_), some (.int n_), some (.int at_), some (.int some_1), some (.int high_2), some (.int k_3), some (.int x26)] [.int x34, .int some_1] z := by
              refine g_ior hE dX8_readsOne_93 ?_
              refine g_istore [some _, some _, some _, some _, some _, some _, some _, some _] hE dX8_readsOne_94 (by decide) rfl ?_
              refine g_iload hE dX8_readsOne_96 rfl ?_
              obtain ⟨x37, hx38, hf⟩ := b1_of hf
              have hJ39 : G true iX8_readsOne M (some (.int r0), z0) 113 [some (.ref 0), some (.int text_), some (.int n_), some (.int at_), some (.int (some_1 ||| x34)), some (.int high_2), some (.int k_3), some (.int x26)] [.int x37, .int high_2] z := by
                refine g_ior hE dX8_readsOne_113 ?_
                refine g_istore [some _, some _, some _, some _, some _, some _, some _, some _] hE dX8_readsOne_114 (by decide) rfl ?_
                refine g_wk [true, true, true, true, true, true, true, false] rfl ?_
                refine g_iinc [some _, some _, some _, some _, some _, some _, some _, none] hE (k_3 + (1 : Int32)) dX8_readsOne_116 rfl rfl (by decide) rfl ?_
                refine g_goto 9 hE dX8_readsOne_119 (by decide) ?_
                exact (ih5 _ _ _ hf)
              replace hf := hx38
              clear hx38
              refine g_iload hE dX8_readsOne_98 rfl ?_
              refine g_bipush hE (104) dX8_readsOne_100 (by decide) ?_
              refine g_icmp_ne 112 hE dX8_readsOne_102 (by decide) (fun h40 => ?_) (fun h40 => ?_)
              · replace hf := it_f hf h40
                refine g_iconst hE (0) dX8_readsOne_112 (by decide) ?_
                obtain rfl := so1 hf
                exact hJ39
              · replace hf := it_t hf h40
                refine g_iconst hE (1) dX8_readsOne_105 (by decide) ?_
                refine g_iload hE dX8_readsOne_106 rfl ?_
                refine g_ishl hE dX8_readsOne_108 ?_
                refine g_goto 113 hE dX8_readsOne_109 (by decide) ?_
                obtain rfl := so1 hf
                exact hJ39
            replace hf := hx35
            clear hx35
            refine g_iload hE dX8_readsOne_78 rfl ?_
            refine g_bipush hE (63) dX8_readsOne_80 (by decide) ?_
            refine g_icmp_ne 89 hE dX8_readsOne_82 (by decide) (fun h41 => ?_) (fun h41 => ?_)
            · replace hf := it_f hf h41
              refine g_iconst hE (1) dX8_readsOne_89 (by decide) ?_
              refine g_iload hE dX8_readsOne_90 rfl ?_
              refine g_ishl hE dX8_readsOne_92 ?_
              obtain rfl := so1 hf
              exact hJ36
            · replace hf := it_t hf h41
              refine g_iconst hE (0) dX8_readsOne_85 (by decide) ?_
              refine g_goto 93 hE dX8_readsOne_86 (by decide) ?_
              obtain rfl := so1 hf
              exact hJ36
          replace hf := hx30
          clear hx30
          refine g_iload hE dX8_readsOne_48 rfl ?_
          refine g_bipush hE (108) dX8_readsOne_50 (by decide) ?_
          refine g_icmp_eq 76 hE dX8_readsOne_52 (by decide) (fun h42 => ?_) (fun h42 => ?_)
          · replace hf := it_f hf (fun q => q h42)
            obtain rfl := so1 hf
            exact hF32 rfl
          · replace hf := it_t hf h42
            refine g_iload hE dX8_readsOne_55 rfl ?_
            refine g_bipush hE (104) dX8_readsOne_57 (by decide) ?_
            refine g_icmp_eq 76 hE dX8_readsOne_59 (by decide) (fun h43 => ?_) (fun h43 => ?_)
            · replace hf := it_f hf (fun q => q h43)
              obtain rfl := so1 hf
              exact hF32 rfl
            · replace hf := it_t hf h43
              refine g_iload hE dX8_readsOne_62 rfl ?_
              refine g_bipush hE (63) dX8_readsOne_64 (by decide) ?_
              refine g_icmp_ne 73 hE dX8_readsOne_66 (by decide) (fun h44 => ?_) (fun h44 => ?_)
              · replace hf := it_t hf h44
                obtain rfl := so1 hf
                exact hT31 rfl
              · replace hf := it_f hf (fun q => q h44)
                refine g_iload_n hE dX8_readsOne_69 rfl ?_
                refine g_if_ne 76 hE dX8_readsOne_70 (by decide) (fun h45 => ?_) (fun h45 => ?_)
                · replace hf := it_f hf h45
                  obtain rfl := so1 hf
                  exact hF32 rfl
                · replace hf := it_t hf h45
                  obtain rfl := so1 hf
                  exact hT31 rfl
        replace hf := hx27
        clear hx27
        refine g_iload_n hE dX8_readsOne_15 rfl ?_
        refine g_iload hE dX8_readsOne_16 rfl ?_
        refine g_iadd hE dX8_readsOne_18 ?_
        refine g_aload_n hE dX8_readsOne_19 rfl ?_
        refine gtX8_0 hE kM_0 wf_RX8_7 dX8_readsOne_20 ?_
        refine g_iload_n hE dX8_readsOne_23 rfl ?_
        obtain ⟨h46, hf⟩ := ck_of hf
        refine g_iald hE kM_1 h46 dX8_readsOne_24 ?_
        refine g_icmp_ge 45 hE dX8_readsOne_25 (by decide) (fun h47 => ?_) (fun h47 => ?_)
        · replace hf := it_f hf (cv_ngt h47)
          refine g_iconst hE (-1) dX8_readsOne_45 (by decide) ?_
          obtain rfl := so1 hf
          exact hJ28
        · replace hf := it_t hf (cv_gt h47)
          refine g_aload_n hE dX8_readsOne_28 rfl ?_
          refine gtX8_1 hE kM_0 wf_RX8_13 dX8_readsOne_29 ?_
          refine g_bipush hE (47) dX8_readsOne_32 (by decide) ?_
          refine g_iload_n hE dX8_readsOne_34 rfl ?_
          refine g_imul hE dX8_readsOne_35 ?_
          refine g_iload_n hE dX8_readsOne_36 rfl ?_
          refine g_iadd hE dX8_readsOne_37 ?_
          refine g_iload hE dX8_readsOne_38 rfl ?_
          refine g_iadd hE dX8_readsOne_40 ?_
          obtain ⟨h48, hf⟩ := ck_of hf
          refine g_iald hE kM_2 h48 dX8_readsOne_41 ?_
          refine g_goto 46 hE dX8_readsOne_42 (by decide) ?_
          obtain rfl := so1 hf
          exact hJ28
  exact hl4 _ _ _ _ hf
set_option maxHeartbeats 4000000 in
set_option maxRecDepth 100000 in
theorem c_X8_readsText {l : Launch} {w : WC} {text_ : Int32} {z : Sg} {r0 : Int32} {z0 : Sg} (hf : f_X8_readsText text_ z = some (r0, z0)) : CT true l iX8_readsText w [.ref 0, .int text_] z (some (.int r0)) z0 := by
  refine ct_of 3 (lv := [some (.ref 0), some (.int text_), none, none, none]) (by decide +kernel) rfl (Nat.le_of_ble_eq_true rfl) rfl (fun M hl hw hE => ?_)
  subst hl
  subst hw
  unfold f_X8_readsText at hf
  refine g_iconst hE (0) dX8_readsText_0 (by decide) ?_
  refine g_istore_n [some _, some _, some _, none, none] hE dX8_readsText_1 (by decide) rfl ?_
  refine g_iconst hE (0) dX8_readsText_2 (by decide) ?_
  refine g_istore_n [some _, some _, some _, some _, none] hE dX8_readsText_3 (by decide) rfl ?_
  refine g_aload_n hE dX8_readsText_4 rfl ?_
  obtain ⟨x1, hx2, hf⟩ := b1_of hf
  have hJ3 : G true iX8_readsText M (some (.int r0), z0) 17 [some (.ref 0), some (.int text_), some (.int (0 : Int32)), some (.int (0 : Int32)), none] [.int x1, .ref 0] z := by
    refine ptX8_2 hE kM_0 wf_RX8_106 dX8_readsText_17 ?_
    refine g_aload_n hE dX8_readsText_20 rfl ?_
    obtain ⟨x4, hx5, hf⟩ := b1_of hf
    have hJ6 : G true iX8_readsText M (some (.int r0), z0) 34 [some (.ref 0), some (.int text_), some (.int (0 : Int32)), some (.int (0 : Int32)), none] [.int x4, .ref 0] (wI z 0 2 x1) := by
      refine ptX8_5 hE kM_0 wf_RX8_109 dX8_readsText_34 ?_
      have hl10 : ∀ (n12 : Nat) (n_7 : Int32) (at_8 : Int32) (z9 : Sg), f_X8_readsText_lp1 text_ n12 n_7 at_8 z9 = some (r0, z0) → G true iX8_readsText M (some (.int r0), z0) 37 [some (.ref 0), some (.int text_), some (.int n_7), some (.int at_8), none] [] z9 := by
        intro n12
        induction n12 with
        | zero => intro n_7 at_8 z9 hf; cases hf
        | succ n12 ih11 =>
          intro n_7 at_8 z9 hf
          rw [f_X8_readsText_lp1] at hf
          obtain ⟨q13, hx14, hf⟩ := b1_of hf
          have hT15 : q13 = true → G true iX8_readsText M (some (.int r0), z0) 51 [some (.ref 0), some (.int text_), some (.int n_7), some (.int at_8), none] [] z9 := by
            intro hq17
            replace hf := it_t hf hq17
            obtain ⟨x18, z19, hx20, hf⟩ := b2_of hf
            have hJ21 : G true iX8_readsText M (some (.int r0), z0) 68 [some (.ref 0), some (.int text_), some (.int n_7), some (.int at_8), none] [.int x18] z19 := by
              refine g_istore [some _, some _, some _, some _, some _] hE dX8_readsText_68 (by decide) rfl ?_
              refine g_iload hE dX8_readsText_70 rfl ?_
              refine g_iconst hE (5) dX8_readsText_72 (by decide) ?_
              refine g_icmp_ge 81 hE dX8_readsText_73 (by decide) (fun h22 => ?_) (fun h22 => ?_)
              · replace hf := it_f hf (cv_ngt h22)
                refine g_iinc [some _, some _, some _, some _, some _] hE (n_7 + (1 : Int32)) dX8_readsText_81 rfl rfl (by decide) rfl ?_
                refine g_iinc [some _, some _, some _, some _, some _] hE (at_8 + (5 : Int32)) dX8_readsText_84 rfl rfl (by decide) rfl ?_
                refine g_iload_n hE dX8_readsText_87 rfl ?_
                refine g_aload_n hE dX8_readsText_88 rfl ?_
                refine gtX8_0 hE kM_0 wf_RX8_7 dX8_readsText_89 ?_
                refine g_iload_n hE dX8_readsText_92 rfl ?_
                obtain ⟨h23, hf⟩ := ck_of hf
                refine g_iald hE kM_1 h23 dX8_readsText_93 ?_
                refine g_icmp_ne 132 hE dX8_readsText_94 (by decide) (fun h24 => ?_) (fun h24 => ?_)
                · replace hf := it_f hf h24
                  refine g_aload_n hE dX8_readsText_132 rfl ?_
                  refine gtX8_1 hE kM_0 wf_RX8_13 dX8_readsText_133 ?_
                  refine g_bipush hE (47) dX8_readsText_136 (by decide) ?_
                  refine g_iload_n hE dX8_readsText_138 rfl ?_
                  refine g_imul hE dX8_readsText_139 ?_
                  refine g_iload_n hE dX8_readsText_140 rfl ?_
                  refine g_iadd hE dX8_readsText_141 ?_
                  obtain ⟨h25, hf⟩ := ck_of hf
                  refine g_iald hE kM_2 h25 dX8_readsText_142 ?_
                  refine g_bipush hE (59) dX8_readsText_143 (by decide) ?_
                  refine g_icmp_eq 150 hE dX8_readsText_145 (by decide) (fun h26 => ?_) (fun h26 => ?_)
                  · replace hf := it_f hf (fun q => q h26)
                    refine g_iinc [some _, some _, some _, some _, some _] hE ((at_8 + (5 : Int32)) + (1 : Int32)) dX8_readsText_150 rfl rfl (by decide) rfl ?_
                    refine g_wk [true, true, true, true, false] rfl ?_
                    refine g_goto 37 hE dX8_readsText_153 (by decide) ?_
                    exact (ih11 _ _ _ hf)
                  · replace hf := it_t hf h26
                    refine g_iload_n hE dX8_readsText_148 rfl ?_
                    obtain ⟨rfl, rfl⟩ := so2 hf
                    exact g_iret hE rfl dX8_readsText_149
                · replace hf := it_t hf h24
                  refine g_aload_n hE dX8_readsText_97 rfl ?_
                  obtain ⟨x27, hx28, hf⟩ := b1_of hf
                  have hJ29 : G true iX8_readsText M (some (.int r0), z0) 110 [some (.ref 0), some (.int text_), some (.int (n_7 + (1 : Int32))), some (.int (at_8 + (5 : Int32))), some (.int x18)] [.int x27, .ref 0] z19 := by
                    refine ptX8_2 hE kM_0 wf_RX8_106 dX8_readsText_110 ?_
                    refine g_aload_n hE dX8_readsText_113 rfl ?_
                    obtain ⟨x30, hx31, hf⟩ := b1_of hf
                    have hJ32 : G true iX8_readsText M (some (.int r0), z0) 127 [some (.ref 0), some (.int text_), some (.int (n_7 + (1 : Int32))), some (.int (at_8 + (5 : Int32))), some (.int x18)] [.int x30, .ref 0] (wI z19 0 2 x27) := by
                      refine ptX8_5 hE kM_0 wf_RX8_109 dX8_readsText_127 ?_
                      refine g_iconst hE (-1) dX8_readsText_130 (by decide) ?_
                      obtain ⟨rfl, rfl⟩ := so2 hf
                      exact g_iret hE rfl dX8_readsText_131
                    replace hf := hx31
                    clear hx31
                    refine g_iload_n hE dX8_readsText_114 rfl ?_
                    refine g_iconst hE (1) dX8_readsText_115 (by decide) ?_
                    refine g_icmp_ne 123 hE dX8_readsText_116 (by decide) (fun h33 => ?_) (fun h33 => ?_)
                    · replace hf := it_f hf h33
                      refine g_aload_n hE dX8_readsText_123 rfl ?_
                      refine gtX8_5 hE kM_0 wf_RX8_109 dX8_readsText_124 ?_
                      obtain rfl := so1 hf
                      exact hJ32
                    · replace hf := it_t hf h33
                      refine g_iload_n hE dX8_readsText_119 rfl ?_
                      refine g_goto 127 hE dX8_readsText_120 (by decide) ?_
                      obtain rfl := so1 hf
                      exact hJ32
                  replace hf := hx28
                  clear hx28
                  refine g_iload_n hE dX8_readsText_98 rfl ?_
                  refine g_if_ne 106 hE dX8_readsText_99 (by decide) (fun h34 => ?_) (fun h34 => ?_)
                  · replace hf := it_f hf h34
                    refine g_aload_n hE dX8_readsText_106 rfl ?_
                    refine gtX8_2 hE kM_0 wf_RX8_106 dX8_readsText_107 ?_
                    obtain rfl := so1 hf
                    exact hJ29
                  · replace hf := it_t hf h34
                    refine g_iload_n hE dX8_readsText_102 rfl ?_
                    refine g_goto 110 hE dX8_readsText_103 (by decide) ?_
                    obtain rfl := so1 hf
                    exact hJ29
              · replace hf := it_t hf (cv_gt h22)
                refine g_iload_n hE dX8_readsText_76 rfl ?_
                refine g_iload hE dX8_readsText_77 rfl ?_
                refine g_iadd hE dX8_readsText_79 ?_
                obtain ⟨rfl, rfl⟩ := so2 hf
                exact g_iret hE rfl dX8_readsText_80
            replace hf := hx20
            clear hx20
            refine g_iload_n hE dX8_readsText_51 rfl ?_
            refine g_bipush hE (8) dX8_readsText_52 (by decide) ?_
            refine g_icmp_ne 61 hE dX8_readsText_54 (by decide) (fun h35 => ?_) (fun h35 => ?_)
            · replace hf := it_f hf h35
              refine g_aload_n hE dX8_readsText_61 rfl ?_
              refine g_iload_n hE dX8_readsText_62 rfl ?_
              refine g_iload_n hE dX8_readsText_63 rfl ?_
              refine g_iload_n hE dX8_readsText_64 rfl ?_
              obtain ⟨r38, z37, hc36, hf⟩ := b2_of hf
              refine g_callV3r hE mv_X8_readsOne kM_0 rfl wm_RX8_112 (by decide) (Nat.le_of_ble_eq_true rfl) dX8_readsText_65 (c_X8_readsOne hc36) ?_
              obtain ⟨rfl, rfl⟩ := so2 hf
              exact hJ21
            · replace hf := it_t hf h35
              refine g_iconst hE (0) dX8_readsText_57 (by decide) ?_
              refine g_goto 68 hE dX8_readsText_58 (by decide) ?_
              obtain ⟨rfl, rfl⟩ := so2 hf
              exact hJ21
          have hF16 : q13 = false → G true iX8_readsText M (some (.int r0), z0) 156 [some (.ref 0), some (.int text_), some (.int n_7), some (.int at_8), none] [] z9 := by
            intro hq17
            replace hf := it_f hf (by rw [hq17]; decide)
            refine g_iconst hE (-1) dX8_readsText_156 (by decide) ?_
            obtain ⟨rfl, rfl⟩ := so2 hf
            exact g_iret hE rfl dX8_readsText_157
          replace hf := hx14
          clear hx14
          refine g_iload_n hE dX8_readsText_37 rfl ?_
          refine g_aload_n hE dX8_readsText_38 rfl ?_
          refine gtX8_0 hE kM_0 wf_RX8_7 dX8_readsText_39 ?_
          refine g_iload_n hE dX8_readsText_42 rfl ?_
          obtain ⟨h39, hf⟩ := ck_of hf
          refine g_iald hE kM_1 h39 dX8_readsText_43 ?_
          refine g_icmp_lt 51 hE dX8_readsText_44 (by decide) (fun h40 => ?_) (fun h40 => ?_)
          · replace hf := it_t hf h40
            obtain rfl := so1 hf
            exact hT15 rfl
          · replace hf := it_f hf h40
            refine g_iload_n hE dX8_readsText_47 rfl ?_
            refine g_if_le 156 hE dX8_readsText_48 (by decide) (fun h41 => ?_) (fun h41 => ?_)
            · replace hf := it_f hf (cv_ngt h41)
              obtain rfl := so1 hf
              exact hF16 rfl
            · replace hf := it_t hf (cv_gt h41)
              obtain rfl := so1 hf
              exact hT15 rfl
      exact hl10 _ _ _ _ hf
    replace hf := hx5
    clear hx5
    refine g_iload_n hE dX8_readsText_21 rfl ?_
    refine g_iconst hE (1) dX8_readsText_22 (by decide) ?_
    refine g_icmp_ne 30 hE dX8_readsText_23 (by decide) (fun h42 => ?_) (fun h42 => ?_)
    · replace hf := it_f hf h42
      refine g_aload_n hE dX8_readsText_30 rfl ?_
      refine gtX8_5 hE kM_0 wf_RX8_109 dX8_readsText_31 ?_
      obtain rfl := so1 hf
      exact hJ6
    · replace hf := it_t hf h42
      refine g_iconst hE (0) dX8_readsText_26 (by decide) ?_
      refine g_goto 34 hE dX8_readsText_27 (by decide) ?_
      obtain rfl := so1 hf
      exact hJ6
  replace hf := hx2
  clear hx2
  refine g_iload_n hE dX8_readsText_5 rfl ?_
  refine g_if_ne 13 hE dX8_readsText_6 (by decide) (fun h43 => ?_) (fun h43 => ?_)
  · replace hf := it_f hf h43
    refine g_aload_n hE dX8_readsText_13 rfl ?_
    refine gtX8_2 hE kM_0 wf_RX8_106 dX8_readsText_14 ?_
    obtain rfl := so1 hf
    exact hJ3
  · replace hf := it_t hf h43
    refine g_iconst hE (0) dX8_readsText_9 (by decide) ?_
    refine g_goto 17 hE dX8_readsText_10 (by decide) ?_
    obtain rfl := so1 hf
    exact hJ3
set_option maxHeartbeats 4000000 in
set_option maxRecDepth 100000 in
theorem c_X8_faultOf {l : Launch} {w : WC} {text_ : Int32} {z : Sg} {r0 : Int32} {z0 : Sg} (hf : f_X8_faultOf text_ z = some (r0, z0)) : CT true l iX8_faultOf w [.ref 0, .int text_] z (some (.int r0)) z0 := by
  refine ct_of 2 (lv := [some (.ref 0), some (.int text_), none, none]) (by decide +kernel) rfl (Nat.le_of_ble_eq_true rfl) rfl (fun M hl hw hE => ?_)
  subst hl
  subst hw
  unfold f_X8_faultOf at hf
  refine g_aload_n hE dX8_faultOf_0 rfl ?_
  refine g_iconst hE (0) dX8_faultOf_1 (by decide) ?_
  obtain ⟨r3, z2, hc1, hf⟩ := b2_of hf
  refine g_callV1r hE mv_X8_readsText kM_0 rfl wm_RX8_116 (by decide) (Nat.le_of_ble_eq_true rfl) dX8_faultOf_2 (c_X8_readsText hc1) ?_
  refine g_istore_n [some _, some _, some _, none] hE dX8_faultOf_5 (by decide) rfl ?_
  refine g_aload_n hE dX8_faultOf_6 rfl ?_
  refine g_iconst hE (1) dX8_faultOf_7 (by decide) ?_
  obtain ⟨r6, z5, hc4, hf⟩ := b2_of hf
  refine g_callV1r hE mv_X8_readsText kM_0 rfl wm_RX8_116 (by decide) (Nat.le_of_ble_eq_true rfl) dX8_faultOf_8 (c_X8_readsText hc4) ?_
  refine g_istore_n [some _, some _, some _, some _] hE dX8_faultOf_11 (by decide) rfl ?_
  obtain ⟨x7, hx8, hf⟩ := b1_of hf
  have hJ9 : G true iX8_faultOf M (some (.int r0), z0) 21 [some (.ref 0), some (.int text_), some (.int r3), some (.int r6)] [.int x7] z5 := by
    obtain ⟨rfl, rfl⟩ := so2 hf
    exact g_iret hE rfl dX8_faultOf_21
  replace hf := hx8
  clear hx8
  refine g_iload_n hE dX8_faultOf_12 rfl ?_
  refine g_if_ne 20 hE dX8_faultOf_13 (by decide) (fun h10 => ?_) (fun h10 => ?_)
  · replace hf := it_f hf h10
    refine g_iload_n hE dX8_faultOf_20 rfl ?_
    obtain rfl := so1 hf
    exact hJ9
  · replace hf := it_t hf h10
    refine g_iload_n hE dX8_faultOf_16 rfl ?_
    refine g_goto 21 hE dX8_faultOf_17 (by decide) ?_
    obtain rfl := so1 hf
    exact hJ9
set_option maxHeartbeats 4000000 in
set_option maxRecDepth 100000 in
theorem c_X8_reads {l : Launch} {w : WC} {z : Sg} {z0 : Sg} (hf : f_X8_reads z = some z0) : CT true l iX8_reads w [.ref 0] z none z0 := by
  refine ct_of 1 (lv := [some (.ref 0), none]) (by decide +kernel) rfl (Nat.le_of_ble_eq_true rfl) rfl (fun M hl hw hE => ?_)
  subst hl
  subst hw
  unfold f_X8_reads at hf
  refine g_aload_n hE dX8_reads_0 rfl ?_
  refine g_iconst hE (0) dX8_reads_1 (by decide) ?_
  obtain ⟨r3, z2, hc1, hf⟩ := b2_of hf
  refine g_callV1r hE mv_X8_faultOf kM_0 rfl wm_RX8_120 (by decide) (Nat.le_of_ble_eq_true rfl) dX8_reads_2 (c_X8_faultOf hc1) ?_
  refine g_istore_n [some _, some _] hE dX8_reads_5 (by decide) rfl ?_
  obtain rfl := so1 hf
  exact g_ret hE rfl dX8_reads_6
set_option maxHeartbeats 4000000 in
set_option maxRecDepth 100000 in
theorem c_X8_fault {l : Launch} {w : WC} {text_ : Int32} {z : Sg} {r0 : Int32} {z0 : Sg} (hf : f_X8_fault text_ z = some (r0, z0)) : CT true l iX8_fault w [.ref 0, .int text_] z (some (.int r0)) z0 := by
  refine ct_of 0 (lv := [some (.ref 0), some (.int text_)]) (by decide +kernel) rfl (Nat.le_of_ble_eq_true rfl) rfl (fun M hl hw hE => ?_)
  subst hl
  subst hw
  unfold f_X8_fault at hf
  obtain ⟨x1, z2, hx3, hf⟩ := b2_of hf
  have hJ4 : G true iX8_fault M (some (.int r0), z0) 17 [some (.ref 0), some (.int text_)] [.int x1] z2 := by
    obtain ⟨rfl, rfl⟩ := so2 hf
    exact g_iret hE rfl dX8_fault_17
  replace hf := hx3
  clear hx3
  refine g_iload_n hE dX8_fault_0 rfl ?_
  obtain ⟨r6, hc5, hf⟩ := b1_of hf
  refine g_callS1r hE ms_X8_isText wm_RX8_102 (by decide) (Nat.le_of_ble_eq_true rfl) dX8_fault_1 (c_X8_isText hc5) ?_
  refine g_if_eq 15 hE dX8_fault_4 (by decide) (fun h7 => ?_) (fun h7 => ?_)
  · replace hf := it_f hf (fun q => q h7)
    refine g_bipush hE (-2) dX8_fault_15 (by decide) ?_
    obtain ⟨rfl, rfl⟩ := so2 hf
    exact hJ4
  · replace hf := it_t hf h7
    refine g_aload_n hE dX8_fault_7 rfl ?_
    refine g_iload_n hE dX8_fault_8 rfl ?_
    obtain ⟨r10, z9, hc8, hf⟩ := b2_of hf
    refine g_callV1r hE mv_X8_faultOf kM_0 rfl wm_RX8_120 (by decide) (Nat.le_of_ble_eq_true rfl) dX8_fault_9 (c_X8_faultOf hc8) ?_
    refine g_goto 17 hE dX8_fault_12 (by decide) ?_
    obtain ⟨rfl, rfl⟩ := so2 hf
    exact hJ4
set_option maxHeartbeats 4000000 in
set_option maxRecDepth 100000 in
theorem c_X8_isVirtue {l : Launch} {w : WC} {v_ : Int32} {z : Sg} {r0 : Int32} {z0 : Sg} (hf : f_X8_isVirtue v_ z = some (r0, z0)) : CT true l iX8_isVirtue w [.ref 0, .int v_] z (some (.int r0)) z0 := by
  refine ct_of 0 (lv := [some (.ref 0), some (.int v_)]) (by decide +kernel) rfl (Nat.le_of_ble_eq_true rfl) rfl (fun M hl hw hE => ?_)
  subst hl
  subst hw
  unfold f_X8_isVirtue at hf
  refine g_aload_n hE dX8_isVirtue_0 rfl ?_
  obtain ⟨z2, hc1, hf⟩ := b1_of hf
  refine g_callV0v hE mv_X8_reads kM_0 rfl wm_RX8_123 (by decide) (Nat.le_of_ble_eq_true rfl) dX8_isVirtue_1 (c_X8_reads hc1) ?_
  refine g_iload_n hE dX8_isVirtue_4 rfl ?_
  refine g_iconst hE (0) dX8_isVirtue_5 (by decide) ?_
  refine g_aload_n hE dX8_isVirtue_6 rfl ?_
  refine gtX8_2 hE kM_0 wf_RX8_106 dX8_isVirtue_7 ?_
  refine g_iconst hE (1) dX8_isVirtue_10 (by decide) ?_
  refine g_isub hE dX8_isVirtue_11 ?_
  obtain ⟨r4, hc3, hf⟩ := b1_of hf
  refine g_callS3r hE ms_X8_in wm_RX8_98 (by decide) (Nat.le_of_ble_eq_true rfl) dX8_isVirtue_12 (c_X8_in hc3) ?_
  obtain ⟨h5, hf⟩ := ck_of hf
  obtain ⟨rfl, rfl⟩ := so2 hf
  exact g_zret hE rfl (bz_nar h5) dX8_isVirtue_15
set_option maxHeartbeats 4000000 in
set_option maxRecDepth 100000 in
theorem c_X8_isClaimant {l : Launch} {w : WC} {c_ : Int32} {z : Sg} {r0 : Int32} {z0 : Sg} (hf : f_X8_isClaimant c_ z = some (r0, z0)) : CT true l iX8_isClaimant w [.ref 0, .int c_] z (some (.int r0)) z0 := by
  refine ct_of 0 (lv := [some (.ref 0), some (.int c_)]) (by decide +kernel) rfl (Nat.le_of_ble_eq_true rfl) rfl (fun M hl hw hE => ?_)
  subst hl
  subst hw
  unfold f_X8_isClaimant at hf
  refine g_aload_n hE dX8_isClaimant_0 rfl ?_
  obtain ⟨z2, hc1, hf⟩ := b1_of hf
  refine g_callV0v hE mv_X8_reads kM_0 rfl wm_RX8_123 (by decide) (Nat.le_of_ble_eq_true rfl) dX8_isClaimant_1 (c_X8_reads hc1) ?_
  refine g_iload_n hE dX8_isClaimant_4 rfl ?_
  refine g_iconst hE (0) dX8_isClaimant_5 (by decide) ?_
  refine g_aload_n hE dX8_isClaimant_6 rfl ?_
  refine gtX8_5 hE kM_0 wf_RX8_109 dX8_isClaimant_7 ?_
  refine g_iconst hE (1) dX8_isClaimant_10 (by decide) ?_
  refine g_isub hE dX8_isClaimant_11 ?_
  obtain ⟨r4, hc3, hf⟩ := b1_of hf
  refine g_callS3r hE ms_X8_in wm_RX8_98 (by decide) (Nat.le_of_ble_eq_true rfl) dX8_isClaimant_12 (c_X8_in hc3) ?_
  obtain ⟨h5, hf⟩ := ck_of hf
  obtain ⟨rfl, rfl⟩ := so2 hf
  exact g_zret hE rfl (bz_nar h5) dX8_isClaimant_15
set_option maxHeartbeats 4000000 in
set_option maxRecDepth 100000 in
theorem c_X8_virtue {l : Launch} {w : WC} {virtue_ : Int32} {what_ : Int32} {z : Sg} {r0 : Int32} {z0 : Sg} (hf : f_X8_virtue virtue_ what_ z = some (r0, z0)) : CT true l iX8_virtue w [.ref 0, .int virtue_, .int what_] z (some (.int r0)) z0 := by
  refine ct_of 0 (lv := [some (.ref 0), some (.int virtue_), some (.int what_)]) (by decide +kernel) rfl (Nat.le_of_ble_eq_true rfl) rfl (fun M hl hw hE => ?_)
  subst hl
  subst hw
  unfold f_X8_virtue at hf
  obtain ⟨x1, z2, hx3, hf⟩ := b2_of hf
  have hJ4 : G true iX8_virtue M (some (.int r0), z0) 41 [some (.ref 0), some (.int virtue_), some (.int what_)] [.int x1] z2 := by
    obtain ⟨rfl, rfl⟩ := so2 hf
    exact g_iret hE rfl dX8_virtue_41
  replace hf := hx3
  clear hx3
  obtain ⟨q5, z6, hx7, hf⟩ := b2_of hf
  have hT8 : q5 = true → G true iX8_virtue M (some (.int r0), z0) 17 [some (.ref 0), some (.int virtue_), some (.int what_)] [] z6 := by
    intro hq10
    replace hf := it_t hf hq10
    obtain ⟨x11, hx12, hf⟩ := b1_of hf
    have hJ13 : G true iX8_virtue M (some (.int r0), z0) 41 [some (.ref 0), some (.int virtue_), some (.int what_)] [.int x11] z6 := by
      obtain ⟨rfl, rfl⟩ := so2 hf
      exact hJ4
    replace hf := hx12
    clear hx12
    refine g_iload_n hE dX8_virtue_17 rfl ?_
    refine g_if_ne 30 hE dX8_virtue_18 (by decide) (fun h14 => ?_) (fun h14 => ?_)
    · replace hf := it_f hf h14
      refine g_aload_n hE dX8_virtue_30 rfl ?_
      refine gtX8_4 hE kM_0 wf_RX8_19 dX8_virtue_31 ?_
      refine g_iload_n hE dX8_virtue_34 rfl ?_
      obtain ⟨h15, hf⟩ := ck_of hf
      refine g_iald hE kM_4 h15 dX8_virtue_35 ?_
      refine g_goto 41 hE dX8_virtue_36 (by decide) ?_
      obtain rfl := so1 hf
      exact hJ13
    · replace hf := it_t hf h14
      refine g_aload_n hE dX8_virtue_21 rfl ?_
      refine gtX8_3 hE kM_0 wf_RX8_16 dX8_virtue_22 ?_
      refine g_iload_n hE dX8_virtue_25 rfl ?_
      obtain ⟨h16, hf⟩ := ck_of hf
      refine g_iald hE kM_3 h16 dX8_virtue_26 ?_
      refine g_goto 41 hE dX8_virtue_27 (by decide) ?_
      obtain rfl := so1 hf
      exact hJ13
  have hF9 : q5 = false → G true iX8_virtue M (some (.int r0), z0) 39 [some (.ref 0), some (.int virtue_), some (.int what_)] [] z6 := by
    intro hq10
    replace hf := it_f hf (by rw [hq10]; decide)
    refine g_bipush hE (-2) dX8_virtue_39 (by decide) ?_
    obtain ⟨rfl, rfl⟩ := so2 hf
    exact hJ4
  replace hf := hx7
  clear hx7
  refine g_aload_n hE dX8_virtue_0 rfl ?_
  refine g_iload_n hE dX8_virtue_1 rfl ?_
  obtain ⟨r19, z18, hc17, hf⟩ := b2_of hf
  refine g_callV1r hE mv_X8_isVirtue kM_0 rfl wm_RX8_126 (by decide) (Nat.le_of_ble_eq_true rfl) dX8_virtue_2 (c_X8_isVirtue hc17) ?_
  refine g_if_eq 39 hE dX8_virtue_5 (by decide) (fun h20 => ?_) (fun h20 => ?_)
  · replace hf := it_f hf (fun q => q h20)
    obtain ⟨rfl, rfl⟩ := so2 hf
    exact hF9 rfl
  · replace hf := it_t hf h20
    refine g_iload_n hE dX8_virtue_8 rfl ?_
    refine g_iconst hE (0) dX8_virtue_9 (by decide) ?_
    refine g_iconst hE (1) dX8_virtue_10 (by decide) ?_
    obtain ⟨r22, hc21, hf⟩ := b1_of hf
    refine g_callS3r hE ms_X8_in wm_RX8_98 (by decide) (Nat.le_of_ble_eq_true rfl) dX8_virtue_11 (c_X8_in hc21) ?_
    refine g_if_eq 39 hE dX8_virtue_14 (by decide) (fun h23 => ?_) (fun h23 => ?_)
    · replace hf := it_f hf (fun q => q h23)
      obtain ⟨rfl, rfl⟩ := so2 hf
      exact hF9 rfl
    · replace hf := it_t hf h23
      obtain ⟨rfl, rfl⟩ := so2 hf
      exact hT8 rfl
set_option maxHeartbeats 4000000 in
set_option maxRecDepth 100000 in
theorem c_X8_claimantOf {l : Launch} {w : WC} {c_ : Int32} {what_ : Int32} {z : Sg} {r0 : Int32} (hf : f_X8_claimantOf c_ what_ z = some r0) : CT true l iX8_claimantOf w [.ref 0, .int c_, .int what_] z (some (.int r0)) z := by
  refine ct_of 0 (lv := [some (.ref 0), some (.int c_), some (.int what_)]) (by decide +kernel) rfl (Nat.le_of_ble_eq_true rfl) rfl (fun M hl hw hE => ?_)
  subst hl
  subst hw
  unfold f_X8_claimantOf at hf
  obtain ⟨x1, hx2, hf⟩ := b1_of hf
  have hJ3 : G true iX8_claimantOf M (some (.int r0), z) 33 [some (.ref 0), some (.int c_), some (.int what_)] [.int x1] z := by
    obtain rfl := so1 hf
    exact g_iret hE rfl dX8_claimantOf_33
  replace hf := hx2
  clear hx2
  refine g_iload_n hE dX8_claimantOf_0 rfl ?_
  refine g_if_ne 13 hE dX8_claimantOf_1 (by decide) (fun h4 => ?_) (fun h4 => ?_)
  · replace hf := it_f hf h4
    obtain ⟨x5, hx6, hf⟩ := b1_of hf
    have hJ7 : G true iX8_claimantOf M (some (.int r0), z) 33 [some (.ref 0), some (.int c_), some (.int what_)] [.int x5] z := by
      obtain rfl := so1 hf
      exact hJ3
    replace hf := hx6
    clear hx6
    refine g_iload_n hE dX8_claimantOf_13 rfl ?_
    refine g_iconst hE (1) dX8_claimantOf_14 (by decide) ?_
    refine g_icmp_ne 27 hE dX8_claimantOf_15 (by decide) (fun h8 => ?_) (fun h8 => ?_)
    · replace hf := it_f hf h8
      refine g_aload_n hE dX8_claimantOf_27 rfl ?_
      refine gtX8_8 hE kM_0 wf_RX8_28 dX8_claimantOf_28 ?_
      refine g_iload_n hE dX8_claimantOf_31 rfl ?_
      obtain ⟨h9, hf⟩ := ck_of hf
      refine g_iald hE kM_7 h9 dX8_claimantOf_32 ?_
      obtain rfl := so1 hf
      exact hJ7
    · replace hf := it_t hf h8
      refine g_aload_n hE dX8_claimantOf_18 rfl ?_
      refine gtX8_7 hE kM_0 wf_RX8_25 dX8_claimantOf_19 ?_
      refine g_iload_n hE dX8_claimantOf_22 rfl ?_
      obtain ⟨h10, hf⟩ := ck_of hf
      refine g_iald hE kM_6 h10 dX8_claimantOf_23 ?_
      refine g_goto 33 hE dX8_claimantOf_24 (by decide) ?_
      obtain rfl := so1 hf
      exact hJ7
  · replace hf := it_t hf h4
    refine g_aload_n hE dX8_claimantOf_4 rfl ?_
    refine gtX8_6 hE kM_0 wf_RX8_22 dX8_claimantOf_5 ?_
    refine g_iload_n hE dX8_claimantOf_8 rfl ?_
    obtain ⟨h11, hf⟩ := ck_of hf
    refine g_iald hE kM_5 h11 dX8_claimantOf_9 ?_
    refine g_goto 33 hE dX8_claimantOf_10 (by decide) ?_
    obtain rfl := so1 hf
    exact hJ3
set_option maxHeartbeats 4000000 in
set_option maxRecDepth 100000 in
theorem c_X8_claimant {l : Launch} {w : WC} {claimant_ : Int32} {what_ : Int32} {z : Sg} {r0 : Int32} {z0 : Sg} (hf : f_X8_claimant claimant_ what_ z = some (r0, z0)) : CT true l iX8_claimant w [.ref 0, .int claimant_, .int what_] z (some (.int r0)) z0 := by
  refine ct_of 0 (lv := [some (.ref 0), some (.int claimant_), some (.int what_)]) (by decide +kernel) rfl (Nat.le_of_ble_eq_true rfl) rfl (fun M hl hw hE => ?_)
  subst hl
  subst hw
  unfold f_X8_claimant at hf
  obtain ⟨x1, z2, hx3, hf⟩ := b2_of hf
  have hJ4 : G true iX8_claimant M (some (.int r0), z0) 28 [some (.ref 0), some (.int claimant_), some (.int what_)] [.int x1] z2 := by
    obtain ⟨rfl, rfl⟩ := so2 hf
    exact g_iret hE rfl dX8_claimant_28
  replace hf := hx3
  clear hx3
  obtain ⟨q5, z6, hx7, hf⟩ := b2_of hf
  have hT8 : q5 = true → G true iX8_claimant M (some (.int r0), z0) 17 [some (.ref 0), some (.int claimant_), some (.int what_)] [] z6 := by
    intro hq10
    replace hf := it_t hf hq10
    refine g_aload_n hE dX8_claimant_17 rfl ?_
    refine g_iload_n hE dX8_claimant_18 rfl ?_
    refine g_iload_n hE dX8_claimant_19 rfl ?_
    obtain ⟨r12, hc11, hf⟩ := b1_of hf
    refine g_callV2r hE mv_X8_claimantOf kM_0 rfl wm_RX8_132 (by decide) (Nat.le_of_ble_eq_true rfl) dX8_claimant_20 (c_X8_claimantOf hc11) ?_
    refine g_goto 28 hE dX8_claimant_23 (by decide) ?_
    obtain ⟨rfl, rfl⟩ := so2 hf
    exact hJ4
  have hF9 : q5 = false → G true iX8_claimant M (some (.int r0), z0) 26 [some (.ref 0), some (.int claimant_), some (.int what_)] [] z6 := by
    intro hq10
    replace hf := it_f hf (by rw [hq10]; decide)
    refine g_bipush hE (-2) dX8_claimant_26 (by decide) ?_
    obtain ⟨rfl, rfl⟩ := so2 hf
    exact hJ4
  replace hf := hx7
  clear hx7
  refine g_aload_n hE dX8_claimant_0 rfl ?_
  refine g_iload_n hE dX8_claimant_1 rfl ?_
  obtain ⟨r15, z14, hc13, hf⟩ := b2_of hf
  refine g_callV1r hE mv_X8_isClaimant kM_0 rfl wm_RX8_129 (by decide) (Nat.le_of_ble_eq_true rfl) dX8_claimant_2 (c_X8_isClaimant hc13) ?_
  refine g_if_eq 26 hE dX8_claimant_5 (by decide) (fun h16 => ?_) (fun h16 => ?_)
  · replace hf := it_f hf (fun q => q h16)
    obtain ⟨rfl, rfl⟩ := so2 hf
    exact hF9 rfl
  · replace hf := it_t hf h16
    refine g_iload_n hE dX8_claimant_8 rfl ?_
    refine g_iconst hE (0) dX8_claimant_9 (by decide) ?_
    refine g_iconst hE (2) dX8_claimant_10 (by decide) ?_
    obtain ⟨r18, hc17, hf⟩ := b1_of hf
    refine g_callS3r hE ms_X8_in wm_RX8_98 (by decide) (Nat.le_of_ble_eq_true rfl) dX8_claimant_11 (c_X8_in hc17) ?_
    refine g_if_eq 26 hE dX8_claimant_14 (by decide) (fun h19 => ?_) (fun h19 => ?_)
    · replace hf := it_f hf (fun q => q h19)
      obtain ⟨rfl, rfl⟩ := so2 hf
      exact hF9 rfl
    · replace hf := it_t hf h19
      obtain ⟨rfl, rfl⟩ := so2 hf
      exact hT8 rfl
set_option maxHeartbeats 4000000 in
set_option maxRecDepth 100000 in
theorem c_X8_set {l : Launch} {w : WC} {what_ : Int32} {v_ : Int32} {z : Sg} {r0 : Int32} {z0 : Sg} (hf : f_X8_set what_ v_ z = some (r0, z0)) : CT true l iX8_set w [.ref 0, .int what_, .int v_] z (some (.int r0)) z0 := by
  refine ct_of 3 (lv := [some (.ref 0), some (.int what_), some (.int v_), none, none, none]) (by decide +kernel) rfl (Nat.le_of_ble_eq_true rfl) rfl (fun M hl hw hE => ?_)
  subst hl
  subst hw
  unfold f_X8_set at hf
  obtain ⟨x1, hx2, hf⟩ := b1_of hf
  have hJ3 : G true iX8_set M (some (.int r0), z0) 10 [some (.ref 0), some (.int what_), some (.int v_), none, none, none] [.int x1] z := by
    refine g_istore_n [some _, some _, some _, some _, none, none] hE dX8_set_10 (by decide) rfl ?_
    obtain ⟨x4, hx5, hf⟩ := b1_of hf
    have hJ6 : G true iX8_set M (some (.int r0), z0) 31 [some (.ref 0), some (.int what_), some (.int v_), some (.int x1), none, none] [.int x4] z := by
      refine g_istore [some _, some _, some _, some _, some _, none] hE dX8_set_31 (by decide) rfl ?_
      obtain ⟨q7, hx8, hf⟩ := b1_of hf
      have hT9 : q7 = true → G true iX8_set M (some (.int r0), z0) 52 [some (.ref 0), some (.int what_), some (.int v_), some (.int x1), some (.int x4), none] [] z := by
        intro hq11
        replace hf := it_t hf hq11
        refine g_bipush hE (-2) dX8_set_52 (by decide) ?_
        obtain ⟨rfl, rfl⟩ := so2 hf
        exact g_iret hE rfl dX8_set_54
      have hF10 : q7 = false → G true iX8_set M (some (.int r0), z0) 55 [some (.ref 0), some (.int what_), some (.int v_), some (.int x1), some (.int x4), none] [] z := by
        intro hq11
        replace hf := it_f hf (by rw [hq11]; decide)
        obtain ⟨x12, hx13, hf⟩ := b1_of hf
        have hJ14 : G true iX8_set M (some (.int r0), z0) 82 [some (.ref 0), some (.int what_), some (.int v_), some (.int x1), some (.int x4), none] [.int x12] z := by
          refine g_istore [some _, some _, some _, some _, some _, some _] hE dX8_set_82 (by decide) rfl ?_
          refine g_aload_n hE dX8_set_84 rfl ?_
          obtain ⟨x15, hx16, hf⟩ := b1_of hf
          have hJ17 : G true iX8_set M (some (.int r0), z0) 97 [some (.ref 0), some (.int what_), some (.int v_), some (.int x1), some (.int x4), some (.int x12)] [.int x15, .ref 0] z := by
            refine ptX8_9 hE kM_0 wf_RX8_89 dX8_set_97 ?_
            refine g_aload_n hE dX8_set_100 rfl ?_
            obtain ⟨x18, hx19, hf⟩ := b1_of hf
            have hJ20 : G true iX8_set M (some (.int r0), z0) 114 [some (.ref 0), some (.int what_), some (.int v_), some (.int x1), some (.int x4), some (.int x12)] [.int x18, .ref 0] (wI z 0 9 x15) := by
              refine ptX8_10 hE kM_0 wf_RX8_136 dX8_set_114 ?_
              refine g_aload_n hE dX8_set_117 rfl ?_
              obtain ⟨x21, hx22, hf⟩ := b1_of hf
              have hJ23 : G true iX8_set M (some (.int r0), z0) 131 [some (.ref 0), some (.int what_), some (.int v_), some (.int x1), some (.int x4), some (.int x12)] [.int x21, .ref 0] (wI (wI z 0 9 x15) 0 10 x18) := by
                refine ptX8_11 hE kM_0 wf_RX8_93 dX8_set_131 ?_
                refine g_iload hE dX8_set_134 rfl ?_
                obtain ⟨rfl, rfl⟩ := so2 hf
                exact g_iret hE rfl dX8_set_136
              replace hf := hx22
              clear hx22
              refine g_iload_n hE dX8_set_118 rfl ?_
              refine g_iconst hE (2) dX8_set_119 (by decide) ?_
              refine g_icmp_ne 127 hE dX8_set_120 (by decide) (fun h24 => ?_) (fun h24 => ?_)
              · replace hf := it_f hf h24
                refine g_aload_n hE dX8_set_127 rfl ?_
                refine gtX8_11 hE kM_0 wf_RX8_93 dX8_set_128 ?_
                obtain rfl := so1 hf
                exact hJ23
              · replace hf := it_t hf h24
                refine g_iload_n hE dX8_set_123 rfl ?_
                refine g_goto 131 hE dX8_set_124 (by decide) ?_
                obtain rfl := so1 hf
                exact hJ23
            replace hf := hx19
            clear hx19
            refine g_iload_n hE dX8_set_101 rfl ?_
            refine g_iconst hE (1) dX8_set_102 (by decide) ?_
            refine g_icmp_ne 110 hE dX8_set_103 (by decide) (fun h25 => ?_) (fun h25 => ?_)
            · replace hf := it_f hf h25
              refine g_aload_n hE dX8_set_110 rfl ?_
              refine gtX8_10 hE kM_0 wf_RX8_136 dX8_set_111 ?_
              obtain rfl := so1 hf
              exact hJ20
            · replace hf := it_t hf h25
              refine g_iload_n hE dX8_set_106 rfl ?_
              refine g_goto 114 hE dX8_set_107 (by decide) ?_
              obtain rfl := so1 hf
              exact hJ20
          replace hf := hx16
          clear hx16
          refine g_iload_n hE dX8_set_85 rfl ?_
          refine g_if_ne 93 hE dX8_set_86 (by decide) (fun h26 => ?_) (fun h26 => ?_)
          · replace hf := it_f hf h26
            refine g_aload_n hE dX8_set_93 rfl ?_
            refine gtX8_9 hE kM_0 wf_RX8_89 dX8_set_94 ?_
            obtain rfl := so1 hf
            exact hJ17
          · replace hf := it_t hf h26
            refine g_iload_n hE dX8_set_89 rfl ?_
            refine g_goto 97 hE dX8_set_90 (by decide) ?_
            obtain rfl := so1 hf
            exact hJ17
        replace hf := hx13
        clear hx13
        refine g_iload_n hE dX8_set_55 rfl ?_
        refine g_if_ne 66 hE dX8_set_56 (by decide) (fun h27 => ?_) (fun h27 => ?_)
        · replace hf := it_f hf h27
          obtain ⟨x28, hx29, hf⟩ := b1_of hf
          have hJ30 : G true iX8_set M (some (.int r0), z0) 82 [some (.ref 0), some (.int what_), some (.int v_), some (.int x1), some (.int x4), none] [.int x28] z := by
            obtain rfl := so1 hf
            exact hJ14
          replace hf := hx29
          clear hx29
          refine g_iload_n hE dX8_set_66 rfl ?_
          refine g_iconst hE (1) dX8_set_67 (by decide) ?_
          refine g_icmp_ne 78 hE dX8_set_68 (by decide) (fun h31 => ?_) (fun h31 => ?_)
          · replace hf := it_f hf h31
            refine g_aload_n hE dX8_set_78 rfl ?_
            refine gtX8_11 hE kM_0 wf_RX8_93 dX8_set_79 ?_
            obtain rfl := so1 hf
            exact hJ30
          · replace hf := it_t hf h31
            refine g_aload_n hE dX8_set_71 rfl ?_
            refine gtX8_10 hE kM_0 wf_RX8_136 dX8_set_72 ?_
            refine g_goto 82 hE dX8_set_75 (by decide) ?_
            obtain rfl := so1 hf
            exact hJ30
        · replace hf := it_t hf h27
          refine g_aload_n hE dX8_set_59 rfl ?_
          refine gtX8_9 hE kM_0 wf_RX8_89 dX8_set_60 ?_
          refine g_goto 82 hE dX8_set_63 (by decide) ?_
          obtain rfl := so1 hf
          exact hJ14
      replace hf := hx8
      clear hx8
      refine g_iload_n hE dX8_set_33 rfl ?_
      refine g_iconst hE (0) dX8_set_34 (by decide) ?_
      refine g_iconst hE (2) dX8_set_35 (by decide) ?_
      obtain ⟨r33, hc32, hf⟩ := b1_of hf
      refine g_callS3r hE ms_X8_in wm_RX8_98 (by decide) (Nat.le_of_ble_eq_true rfl) dX8_set_36 (c_X8_in hc32) ?_
      refine g_if_eq 52 hE dX8_set_39 (by decide) (fun h34 => ?_) (fun h34 => ?_)
      · replace hf := it_f hf (fun q => q h34)
        obtain rfl := so1 hf
        exact hT9 rfl
      · replace hf := it_t hf h34
        refine g_iload_n hE dX8_set_42 rfl ?_
        refine g_iload_n hE dX8_set_43 rfl ?_
        refine g_iload hE dX8_set_44 rfl ?_
        obtain ⟨r36, hc35, hf⟩ := b1_of hf
        refine g_callS3r hE ms_X8_in wm_RX8_98 (by decide) (Nat.le_of_ble_eq_true rfl) dX8_set_46 (c_X8_in hc35) ?_
        refine g_if_ne 55 hE dX8_set_49 (by decide) (fun h37 => ?_) (fun h37 => ?_)
        · replace hf := it_t hf h37
          obtain rfl := so1 hf
          exact hF10 rfl
        · replace hf := it_f hf (fun q => q h37)
          obtain rfl := so1 hf
          exact hT9 rfl
    replace hf := hx5
    clear hx5
    refine g_iload_n hE dX8_set_11 rfl ?_
    refine g_if_ne 19 hE dX8_set_12 (by decide) (fun h38 => ?_) (fun h38 => ?_)
    · replace hf := it_f hf h38
      obtain ⟨x39, hx40, hf⟩ := b1_of hf
      have hJ41 : G true iX8_set M (some (.int r0), z0) 31 [some (.ref 0), some (.int what_), some (.int v_), some (.int x1), none, none] [.int x39] z := by
        obtain rfl := so1 hf
        exact hJ6
      replace hf := hx40
      clear hx40
      refine g_iload_n hE dX8_set_19 rfl ?_
      refine g_iconst hE (1) dX8_set_20 (by decide) ?_
      refine g_icmp_ne 29 hE dX8_set_21 (by decide) (fun h42 => ?_) (fun h42 => ?_)
      · replace hf := it_f hf h42
        refine g_bipush hE (9) dX8_set_29 (by decide) ?_
        obtain rfl := so1 hf
        exact hJ41
      · replace hf := it_t hf h42
        refine g_bipush hE (15) dX8_set_24 (by decide) ?_
        refine g_goto 31 hE dX8_set_26 (by decide) ?_
        obtain rfl := so1 hf
        exact hJ41
    · replace hf := it_t hf h38
      refine g_iconst hE (4) dX8_set_15 (by decide) ?_
      refine g_goto 31 hE dX8_set_16 (by decide) ?_
      obtain rfl := so1 hf
      exact hJ6
  replace hf := hx2
  clear hx2
  refine g_iload_n hE dX8_set_0 rfl ?_
  refine g_iconst hE (2) dX8_set_1 (by decide) ?_
  refine g_icmp_ne 9 hE dX8_set_2 (by decide) (fun h43 => ?_) (fun h43 => ?_)
  · replace hf := it_f hf h43
    refine g_iconst hE (0) dX8_set_9 (by decide) ?_
    obtain rfl := so1 hf
    exact hJ3
  · replace hf := it_t hf h43
    refine g_iconst hE (1) dX8_set_5 (by decide) ?_
    refine g_goto 10 hE dX8_set_6 (by decide) ?_
    obtain rfl := so1 hf
    exact hJ3
set_option maxHeartbeats 4000000 in
set_option maxRecDepth 100000 in
theorem c_X8_handing {l : Launch} {w : WC} {week_ : Int32} {virtue_ : Int32} {z : Sg} {r0 : Int32} {z0 : Sg} (hf : f_X8_handing week_ virtue_ z = some (r0, z0)) : CT true l iX8_handing w [.ref 0, .int week_, .int virtue_] z (some (.int r0)) z0 := by
  refine ct_of 0 (lv := [some (.ref 0), some (.int week_), some (.int virtue_)]) (by decide +kernel) rfl (Nat.le_of_ble_eq_true rfl) rfl (fun M hl hw hE => ?_)
  subst hl
  subst hw
  unfold f_X8_handing at hf
  obtain ⟨q1, hx2, hf⟩ := b1_of hf
  have hT3 : q1 = true → G true iX8_handing M (some (.int r0), z0) 14 [some (.ref 0), some (.int week_), some (.int virtue_)] [] z := by
    intro hq5
    replace hf := it_t hf hq5
    refine g_bipush hE (-2) dX8_handing_14 (by decide) ?_
    obtain ⟨rfl, rfl⟩ := so2 hf
    exact g_iret hE rfl dX8_handing_16
  have hF4 : q1 = false → G true iX8_handing M (some (.int r0), z0) 17 [some (.ref 0), some (.int week_), some (.int virtue_)] [] z := by
    intro hq5
    replace hf := it_f hf (by rw [hq5]; decide)
    refine g_aload_n hE dX8_handing_17 rfl ?_
    refine gtX8_12 hE kM_0 wf_RX8_145 dX8_handing_18 ?_
    refine g_bipush hE (12) dX8_handing_21 (by decide) ?_
    refine g_icmp_ne 29 hE dX8_handing_23 (by decide) (fun h6 => ?_) (fun h6 => ?_)
    · replace hf := it_f hf h6
      refine g_aload_n hE dX8_handing_29 rfl ?_
      refine gtX8_13 hE kM_0 wf_RX8_31 dX8_handing_30 ?_
      refine g_aload_n hE dX8_handing_33 rfl ?_
      refine gtX8_12 hE kM_0 wf_RX8_145 dX8_handing_34 ?_
      refine g_iload_n hE dX8_handing_37 rfl ?_
      obtain ⟨h7, hf⟩ := ck_of hf
      refine g_iast hE kM_8 h7 dX8_handing_38 ?_
      refine g_aload_n hE dX8_handing_39 rfl ?_
      refine gtX8_14 hE kM_0 wf_RX8_34 dX8_handing_40 ?_
      refine g_aload_n hE dX8_handing_43 rfl ?_
      refine gtX8_12 hE kM_0 wf_RX8_145 dX8_handing_44 ?_
      refine g_iload_n hE dX8_handing_47 rfl ?_
      obtain ⟨h8, hf⟩ := ck_of hf
      refine g_iast hE kM_9 h8 dX8_handing_48 ?_
      refine g_aload_n hE dX8_handing_49 rfl ?_
      refine g_dup hE dX8_handing_50 rfl ?_
      refine gtX8_12 hE kM_0 wf_RX8_145 dX8_handing_51 ?_
      refine g_iconst hE (1) dX8_handing_54 (by decide) ?_
      refine g_iadd hE dX8_handing_55 ?_
      refine ptX8_12 hE kM_0 wf_RX8_145 dX8_handing_56 ?_
      refine g_aload_n hE dX8_handing_59 rfl ?_
      refine gtX8_12 hE kM_0 wf_RX8_145 dX8_handing_60 ?_
      obtain ⟨rfl, rfl⟩ := so2 hf
      exact g_iret hE rfl dX8_handing_63
    · replace hf := it_t hf h6
      refine g_bipush hE (-4) dX8_handing_26 (by decide) ?_
      obtain ⟨rfl, rfl⟩ := so2 hf
      exact g_iret hE rfl dX8_handing_28
  replace hf := hx2
  clear hx2
  refine g_iload_n hE dX8_handing_0 rfl ?_
  obtain ⟨r10, hc9, hf⟩ := b1_of hf
  refine g_callS1r hE ms_X8_isWeek wm_RX8_139 (by decide) (Nat.le_of_ble_eq_true rfl) dX8_handing_1 (c_X8_isWeek hc9) ?_
  refine g_if_eq 14 hE dX8_handing_4 (by decide) (fun h11 => ?_) (fun h11 => ?_)
  · replace hf := it_f hf (fun q => q h11)
    obtain rfl := so1 hf
    exact hT3 rfl
  · replace hf := it_t hf h11
    refine g_iload_n hE dX8_handing_7 rfl ?_
    obtain ⟨r13, hc12, hf⟩ := b1_of hf
    refine g_callS1r hE ms_X8_isEight wm_RX8_142 (by decide) (Nat.le_of_ble_eq_true rfl) dX8_handing_8 (c_X8_isEight hc12) ?_
    refine g_if_ne 17 hE dX8_handing_11 (by decide) (fun h14 => ?_) (fun h14 => ?_)
    · replace hf := it_t hf h14
      obtain rfl := so1 hf
      exact hF4 rfl
    · replace hf := it_f hf (fun q => q h14)
      obtain rfl := so1 hf
      exact hT3 rfl
set_option maxHeartbeats 4000000 in
set_option maxRecDepth 100000 in
theorem c_X8_claim {l : Launch} {w : WC} {week_ : Int32} {claimant_ : Int32} {z : Sg} {r0 : Int32} {z0 : Sg} (hf : f_X8_claim week_ claimant_ z = some (r0, z0)) : CT true l iX8_claim w [.ref 0, .int week_, .int claimant_] z (some (.int r0)) z0 := by
  refine ct_of 0 (lv := [some (.ref 0), some (.int week_), some (.int claimant_)]) (by decide +kernel) rfl (Nat.le_of_ble_eq_true rfl) rfl (fun M hl hw hE => ?_)
  subst hl
  subst hw
  unfold f_X8_claim at hf
  obtain ⟨q1, hx2, hf⟩ := b1_of hf
  have hT3 : q1 = true → G true iX8_claim M (some (.int r0), z0) 14 [some (.ref 0), some (.int week_), some (.int claimant_)] [] z := by
    intro hq5
    replace hf := it_t hf hq5
    refine g_bipush hE (-2) dX8_claim_14 (by decide) ?_
    obtain ⟨rfl, rfl⟩ := so2 hf
    exact g_iret hE rfl dX8_claim_16
  have hF4 : q1 = false → G true iX8_claim M (some (.int r0), z0) 17 [some (.ref 0), some (.int week_), some (.int claimant_)] [] z := by
    intro hq5
    replace hf := it_f hf (by rw [hq5]; decide)
    refine g_aload_n hE dX8_claim_17 rfl ?_
    refine gtX8_15 hE kM_0 wf_RX8_148 dX8_claim_18 ?_
    refine g_bipush hE (12) dX8_claim_21 (by decide) ?_
    refine g_icmp_ne 29 hE dX8_claim_23 (by decide) (fun h6 => ?_) (fun h6 => ?_)
    · replace hf := it_f hf h6
      refine g_aload_n hE dX8_claim_29 rfl ?_
      refine gtX8_16 hE kM_0 wf_RX8_37 dX8_claim_30 ?_
      refine g_aload_n hE dX8_claim_33 rfl ?_
      refine gtX8_15 hE kM_0 wf_RX8_148 dX8_claim_34 ?_
      refine g_iload_n hE dX8_claim_37 rfl ?_
      obtain ⟨h7, hf⟩ := ck_of hf
      refine g_iast hE kM_10 h7 dX8_claim_38 ?_
      refine g_aload_n hE dX8_claim_39 rfl ?_
      refine gtX8_17 hE kM_0 wf_RX8_40 dX8_claim_40 ?_
      refine g_aload_n hE dX8_claim_43 rfl ?_
      refine gtX8_15 hE kM_0 wf_RX8_148 dX8_claim_44 ?_
      refine g_iload_n hE dX8_claim_47 rfl ?_
      obtain ⟨h8, hf⟩ := ck_of hf
      refine g_iast hE kM_11 h8 dX8_claim_48 ?_
      refine g_aload_n hE dX8_claim_49 rfl ?_
      refine g_dup hE dX8_claim_50 rfl ?_
      refine gtX8_15 hE kM_0 wf_RX8_148 dX8_claim_51 ?_
      refine g_iconst hE (1) dX8_claim_54 (by decide) ?_
      refine g_iadd hE dX8_claim_55 ?_
      refine ptX8_15 hE kM_0 wf_RX8_148 dX8_claim_56 ?_
      refine g_aload_n hE dX8_claim_59 rfl ?_
      refine gtX8_15 hE kM_0 wf_RX8_148 dX8_claim_60 ?_
      obtain ⟨rfl, rfl⟩ := so2 hf
      exact g_iret hE rfl dX8_claim_63
    · replace hf := it_t hf h6
      refine g_bipush hE (-4) dX8_claim_26 (by decide) ?_
      obtain ⟨rfl, rfl⟩ := so2 hf
      exact g_iret hE rfl dX8_claim_28
  replace hf := hx2
  clear hx2
  refine g_iload_n hE dX8_claim_0 rfl ?_
  obtain ⟨r10, hc9, hf⟩ := b1_of hf
  refine g_callS1r hE ms_X8_isWeek wm_RX8_139 (by decide) (Nat.le_of_ble_eq_true rfl) dX8_claim_1 (c_X8_isWeek hc9) ?_
  refine g_if_eq 14 hE dX8_claim_4 (by decide) (fun h11 => ?_) (fun h11 => ?_)
  · replace hf := it_f hf (fun q => q h11)
    obtain rfl := so1 hf
    exact hT3 rfl
  · replace hf := it_t hf h11
    refine g_iload_n hE dX8_claim_7 rfl ?_
    obtain ⟨r13, hc12, hf⟩ := b1_of hf
    refine g_callS1r hE ms_X8_isEight wm_RX8_142 (by decide) (Nat.le_of_ble_eq_true rfl) dX8_claim_8 (c_X8_isEight hc12) ?_
    refine g_if_ne 17 hE dX8_claim_11 (by decide) (fun h14 => ?_) (fun h14 => ?_)
    · replace hf := it_t hf h14
      obtain rfl := so1 hf
      exact hF4 rfl
    · replace hf := it_f hf (fun q => q h14)
      obtain rfl := so1 hf
      exact hT3 rfl
