/-! CONTRACTS. Printed by wip/whole/gen/mkall.py out of the Java text. -/
set_option maxHeartbeats 4000000 in
set_option maxRecDepth 100000 in
theorem c_X8_lacks {l : Launch} {w : WC} {s_ : Int32} {form_ : Int32} {i_ : Int32} {z : Sg} {r0 : Int32} (hf : f_X8_lacks s_ form_ i_ z = some r0) : CT true l iX8_lacks w [.ref 0, .int s_, .int form_, .int i_] z (some (.int r0)) z := by
  refine ct_of 0 (lv := [some (.ref 0), some (.int s_), some (.int form_), some (.int i_)]) (by decide +kernel) rfl (Nat.le_of_ble_eq_true rfl) rfl (fun M hl hw hE => ?_)
  subst hl
  subst hw
  unfold f_X8_lacks at hf
  obtain ⟨x1, hx2, hf⟩ := b1_of hf
  have hJ3 : G true iX8_lacks M (some (.int r0), z) 48 [some (.ref 0), some (.int s_), some (.int form_), some (.int i_)] [.int x1] z := by
    obtain rfl := so1 hf
    exact g_iret hE rfl dX8_lacks_48
  replace hf := hx2
  clear hx2
  refine g_aload_n hE dX8_lacks_0 rfl ?_
  refine gtX8_31 hE kM_0 wf_RX8_73 dX8_lacks_1 ?_
  refine g_iload_n hE dX8_lacks_4 rfl ?_
  obtain ⟨h4, hf⟩ := ck_of hf
  refine g_zald hE kM_22 h4 dX8_lacks_5 ?_
  refine g_if_ne 13 hE dX8_lacks_6 (by decide) (fun h5 => ?_) (fun h5 => ?_)
  · replace hf := it_t hf h5
    obtain ⟨x6, hx7, hf⟩ := b1_of hf
    have hJ8 : G true iX8_lacks M (some (.int r0), z) 48 [some (.ref 0), some (.int s_), some (.int form_), some (.int i_)] [.int x6] z := by
      obtain rfl := so1 hf
      exact hJ3
    replace hf := hx7
    clear hx7
    refine g_aload_n hE dX8_lacks_13 rfl ?_
    refine gtX8_32 hE kM_0 wf_RX8_77 dX8_lacks_14 ?_
    refine g_iload_n hE dX8_lacks_17 rfl ?_
    obtain ⟨h9, hf⟩ := ck_of hf
    refine g_iald hE kM_23 h9 dX8_lacks_18 ?_
    refine g_iload_n hE dX8_lacks_19 rfl ?_
    refine g_icmp_eq 27 hE dX8_lacks_20 (by decide) (fun h10 => ?_) (fun h10 => ?_)
    · replace hf := it_f hf (fun q => q h10)
      obtain ⟨x11, hx12, hf⟩ := b1_of hf
      have hJ13 : G true iX8_lacks M (some (.int r0), z) 48 [some (.ref 0), some (.int s_), some (.int form_), some (.int i_)] [.int x11] z := by
        obtain rfl := so1 hf
        exact hJ8
      replace hf := hx12
      clear hx12
      refine g_iload_n hE dX8_lacks_27 rfl ?_
      refine g_iconst hE (0) dX8_lacks_28 (by decide) ?_
      refine g_aload_n hE dX8_lacks_29 rfl ?_
      refine gtX8_33 hE kM_0 wf_RX8_80 dX8_lacks_30 ?_
      refine g_iload_n hE dX8_lacks_33 rfl ?_
      obtain ⟨h14, hf⟩ := ck_of hf
      refine g_iald hE kM_24 h14 dX8_lacks_34 ?_
      refine g_iconst hE (1) dX8_lacks_35 (by decide) ?_
      refine g_isub hE dX8_lacks_36 ?_
      obtain ⟨r16, hc15, hf⟩ := b1_of hf
      refine g_callS3r hE ms_X8_in wm_RX8_98 (by decide) (Nat.le_of_ble_eq_true rfl) dX8_lacks_37 (c_X8_in hc15) ?_
      refine g_if_eq 47 hE dX8_lacks_40 (by decide) (fun h17 => ?_) (fun h17 => ?_)
      · replace hf := it_f hf (fun q => q h17)
        refine g_iconst hE (2) dX8_lacks_47 (by decide) ?_
        obtain rfl := so1 hf
        exact hJ13
      · replace hf := it_t hf h17
        refine g_iconst hE (0) dX8_lacks_43 (by decide) ?_
        refine g_goto 48 hE dX8_lacks_44 (by decide) ?_
        obtain rfl := so1 hf
        exact hJ13
    · replace hf := it_t hf h10
      refine g_iconst hE (3) dX8_lacks_23 (by decide) ?_
      refine g_goto 48 hE dX8_lacks_24 (by decide) ?_
      obtain rfl := so1 hf
      exact hJ8
  · replace hf := it_f hf (fun q => q h5)
    refine g_iconst hE (1) dX8_lacks_9 (by decide) ?_
    refine g_goto 48 hE dX8_lacks_10 (by decide) ?_
    obtain rfl := so1 hf
    exact hJ3
set_option maxHeartbeats 4000000 in
set_option maxRecDepth 100000 in
theorem c_X8_keep {l : Launch} {w : WC} {s_ : Int32} {i_ : Int32} {v_ : Int32} {z : Sg} {z0 : Sg} (hf : f_X8_keep s_ i_ v_ z = some z0) : CT true l iX8_keep w [.ref 0, .int s_, .int i_, .int v_] z none z0 := by
  refine ct_of 0 (lv := [some (.ref 0), some (.int s_), some (.int i_), some (.int v_)]) (by decide +kernel) rfl (Nat.le_of_ble_eq_true rfl) rfl (fun M hl hw hE => ?_)
  subst hl
  subst hw
  unfold f_X8_keep at hf
  refine g_aload_n hE dX8_keep_0 rfl ?_
  refine gtX8_34 hE kM_0 wf_RX8_83 dX8_keep_1 ?_
  refine g_bipush hE (48) dX8_keep_4 (by decide) ?_
  refine g_iload_n hE dX8_keep_6 rfl ?_
  refine g_imul hE dX8_keep_7 ?_
  refine g_iload_n hE dX8_keep_8 rfl ?_
  refine g_iadd hE dX8_keep_9 ?_
  obtain ⟨x1, hx2, hf⟩ := b1_of hf
  have hJ3 : G true iX8_keep M (none, z0) 40 [some (.ref 0), some (.int s_), some (.int i_), some (.int v_)] [.int x1, .int (((48 : Int32) * s_) + i_), .ref 25] z := by
    obtain ⟨h4, hf⟩ := ck_of hf
    refine g_iast hE kM_25 h4 dX8_keep_40 ?_
    obtain rfl := so1 hf
    exact g_ret hE rfl dX8_keep_41
  replace hf := hx2
  clear hx2
  refine g_aload_n hE dX8_keep_10 rfl ?_
  refine gtX8_32 hE kM_0 wf_RX8_77 dX8_keep_11 ?_
  refine g_iload_n hE dX8_keep_14 rfl ?_
  obtain ⟨h5, hf⟩ := ck_of hf
  refine g_iald hE kM_23 h5 dX8_keep_15 ?_
  refine g_if_ne 24 hE dX8_keep_16 (by decide) (fun h6 => ?_) (fun h6 => ?_)
  · replace hf := it_f hf h6
    obtain ⟨x7, hx8, hf⟩ := b1_of hf
    have hJ9 : G true iX8_keep M (none, z0) 40 [some (.ref 0), some (.int s_), some (.int i_), some (.int v_)] [.int x7, .int (((48 : Int32) * s_) + i_), .ref 25] z := by
      obtain rfl := so1 hf
      exact hJ3
    replace hf := hx8
    clear hx8
    refine g_aload_n hE dX8_keep_24 rfl ?_
    refine gtX8_32 hE kM_0 wf_RX8_77 dX8_keep_25 ?_
    refine g_iload_n hE dX8_keep_28 rfl ?_
    obtain ⟨h10, hf⟩ := ck_of hf
    refine g_iald hE kM_23 h10 dX8_keep_29 ?_
    refine g_iconst hE (1) dX8_keep_30 (by decide) ?_
    refine g_icmp_ne 39 hE dX8_keep_31 (by decide) (fun h11 => ?_) (fun h11 => ?_)
    · replace hf := it_f hf h11
      refine g_iload_n hE dX8_keep_39 rfl ?_
      obtain rfl := so1 hf
      exact hJ9
    · replace hf := it_t hf h11
      refine g_iload_n hE dX8_keep_34 rfl ?_
      refine g_i2s hE dX8_keep_35 ?_
      refine g_goto 40 hE dX8_keep_36 (by decide) ?_
      obtain rfl := so1 hf
      exact hJ9
  · replace hf := it_t hf h6
    refine g_iload_n hE dX8_keep_19 rfl ?_
    refine g_i2b hE dX8_keep_20 ?_
    refine g_goto 40 hE dX8_keep_21 (by decide) ?_
    obtain rfl := so1 hf
    exact hJ3
set_option maxHeartbeats 4000000 in
set_option maxRecDepth 100000 in
theorem c_X8_put {l : Launch} {w : WC} {s_ : Int32} {form_ : Int32} {i_ : Int32} {v_ : Int32} {z : Sg} {r0 : Int32} {z0 : Sg} (hf : f_X8_put s_ form_ i_ v_ z = some (r0, z0)) : CT true l iX8_put w [.ref 0, .int s_, .int form_, .int i_, .int v_] z (some (.int r0)) z0 := by
  refine ct_of 1 (lv := [some (.ref 0), some (.int s_), some (.int form_), some (.int i_), some (.int v_), none]) (by decide +kernel) rfl (Nat.le_of_ble_eq_true rfl) rfl (fun M hl hw hE => ?_)
  subst hl
  subst hw
  unfold f_X8_put at hf
  obtain ⟨q1, hx2, hf⟩ := b1_of hf
  have hT3 : q1 = true → G true iX8_put M (some (.int r0), z0) 16 [some (.ref 0), some (.int s_), some (.int form_), some (.int i_), some (.int v_), none] [] z := by
    intro hq5
    replace hf := it_t hf hq5
    refine g_bipush hE (-2) dX8_put_16 (by decide) ?_
    obtain ⟨rfl, rfl⟩ := so2 hf
    exact g_iret hE rfl dX8_put_18
  have hF4 : q1 = false → G true iX8_put M (some (.int r0), z0) 19 [some (.ref 0), some (.int s_), some (.int form_), some (.int i_), some (.int v_), none] [] z := by
    intro hq5
    replace hf := it_f hf (by rw [hq5]; decide)
    refine g_aload_n hE dX8_put_19 rfl ?_
    refine g_iload_n hE dX8_put_20 rfl ?_
    refine g_iload_n hE dX8_put_21 rfl ?_
    refine g_iload_n hE dX8_put_22 rfl ?_
    obtain ⟨r7, hc6, hf⟩ := b1_of hf
    refine g_callV3r hE mv_X8_lacks kM_0 rfl wm_RX8_267 (by decide) (Nat.le_of_ble_eq_true rfl) dX8_put_23 (c_X8_lacks hc6) ?_
    refine g_istore [some _, some _, some _, some _, some _, some _] hE dX8_put_26 (by decide) rfl ?_
    refine g_iload hE dX8_put_28 rfl ?_
    refine g_if_le 40 hE dX8_put_30 (by decide) (fun h8 => ?_) (fun h8 => ?_)
    · replace hf := it_f hf (cv_ngt h8)
      refine g_aload_n hE dX8_put_40 rfl ?_
      refine g_iload_n hE dX8_put_41 rfl ?_
      refine g_iload_n hE dX8_put_42 rfl ?_
      refine g_iload hE dX8_put_43 rfl ?_
      obtain ⟨z10, hc9, hf⟩ := b1_of hf
      refine g_callV3v hE mv_X8_keep kM_0 rfl wm_RX8_270 (by decide) (Nat.le_of_ble_eq_true rfl) dX8_put_45 (c_X8_keep hc9) ?_
      refine g_iconst hE (1) dX8_put_48 (by decide) ?_
      obtain ⟨rfl, rfl⟩ := so2 hf
      exact g_iret hE rfl dX8_put_49
    · replace hf := it_t hf (cv_gt h8)
      refine g_aload_n hE dX8_put_33 rfl ?_
      refine g_iload hE dX8_put_34 rfl ?_
      obtain ⟨r13, z12, hc11, hf⟩ := b2_of hf
      refine g_callV1r hE mv_X8_meets kM_0 rfl wm_RX8_154 (by decide) (Nat.le_of_ble_eq_true rfl) dX8_put_36 (c_X8_meets hc11) ?_
      obtain ⟨rfl, rfl⟩ := so2 hf
      exact g_iret hE rfl dX8_put_39
  replace hf := hx2
  clear hx2
  refine g_iload_n hE dX8_put_0 rfl ?_
  obtain ⟨r15, hc14, hf⟩ := b1_of hf
  refine g_callS1r hE ms_X8_isSheet wm_RX8_151 (by decide) (Nat.le_of_ble_eq_true rfl) dX8_put_1 (c_X8_isSheet hc14) ?_
  refine g_if_eq 16 hE dX8_put_4 (by decide) (fun h16 => ?_) (fun h16 => ?_)
  · replace hf := it_f hf (fun q => q h16)
    obtain rfl := so1 hf
    exact hT3 rfl
  · replace hf := it_t hf h16
    refine g_iload_n hE dX8_put_7 rfl ?_
    refine g_iconst hE (0) dX8_put_8 (by decide) ?_
    refine g_iconst hE (2) dX8_put_9 (by decide) ?_
    obtain ⟨r18, hc17, hf⟩ := b1_of hf
    refine g_callS3r hE ms_X8_in wm_RX8_98 (by decide) (Nat.le_of_ble_eq_true rfl) dX8_put_10 (c_X8_in hc17) ?_
    refine g_if_ne 19 hE dX8_put_13 (by decide) (fun h19 => ?_) (fun h19 => ?_)
    · replace hf := it_t hf h19
      obtain rfl := so1 hf
      exact hF4 rfl
    · replace hf := it_f hf (fun q => q h19)
      obtain rfl := so1 hf
      exact hT3 rfl
set_option maxHeartbeats 4000000 in
set_option maxRecDepth 100000 in
theorem c_X8_get {l : Launch} {w : WC} {s_ : Int32} {form_ : Int32} {i_ : Int32} {z : Sg} {r0 : Int32} {z0 : Sg} (hf : f_X8_get s_ form_ i_ z = some (r0, z0)) : CT true l iX8_get w [.ref 0, .int s_, .int form_, .int i_] z (some (.int r0)) z0 := by
  refine ct_of 1 (lv := [some (.ref 0), some (.int s_), some (.int form_), some (.int i_), none]) (by decide +kernel) rfl (Nat.le_of_ble_eq_true rfl) rfl (fun M hl hw hE => ?_)
  subst hl
  subst hw
  unfold f_X8_get at hf
  obtain ⟨q1, hx2, hf⟩ := b1_of hf
  have hT3 : q1 = true → G true iX8_get M (some (.int r0), z0) 16 [some (.ref 0), some (.int s_), some (.int form_), some (.int i_), none] [] z := by
    intro hq5
    replace hf := it_t hf hq5
    refine g_ldcw hE wk_RX8_273 dX8_get_16 ?_
    obtain ⟨rfl, rfl⟩ := so2 hf
    exact g_iret hE rfl dX8_get_19
  have hF4 : q1 = false → G true iX8_get M (some (.int r0), z0) 20 [some (.ref 0), some (.int s_), some (.int form_), some (.int i_), none] [] z := by
    intro hq5
    replace hf := it_f hf (by rw [hq5]; decide)
    refine g_aload_n hE dX8_get_20 rfl ?_
    refine g_iload_n hE dX8_get_21 rfl ?_
    refine g_iload_n hE dX8_get_22 rfl ?_
    refine g_iload_n hE dX8_get_23 rfl ?_
    obtain ⟨r7, hc6, hf⟩ := b1_of hf
    refine g_callV3r hE mv_X8_lacks kM_0 rfl wm_RX8_267 (by decide) (Nat.le_of_ble_eq_true rfl) dX8_get_24 (c_X8_lacks hc6) ?_
    refine g_istore [some _, some _, some _, some _, some _] hE dX8_get_27 (by decide) rfl ?_
    refine g_iload hE dX8_get_29 rfl ?_
    refine g_if_le 44 hE dX8_get_31 (by decide) (fun h8 => ?_) (fun h8 => ?_)
    · replace hf := it_f hf (cv_ngt h8)
      refine g_aload_n hE dX8_get_44 rfl ?_
      refine gtX8_34 hE kM_0 wf_RX8_83 dX8_get_45 ?_
      refine g_bipush hE (48) dX8_get_48 (by decide) ?_
      refine g_iload_n hE dX8_get_50 rfl ?_
      refine g_imul hE dX8_get_51 ?_
      refine g_iload_n hE dX8_get_52 rfl ?_
      refine g_iadd hE dX8_get_53 ?_
      obtain ⟨h9, hf⟩ := ck_of hf
      refine g_iald hE kM_25 h9 dX8_get_54 ?_
      obtain ⟨rfl, rfl⟩ := so2 hf
      exact g_iret hE rfl dX8_get_55
    · replace hf := it_t hf (cv_gt h8)
      refine g_aload_n hE dX8_get_34 rfl ?_
      refine g_iload hE dX8_get_35 rfl ?_
      refine ptX8_36 hE kM_0 wf_RX8_264 dX8_get_37 ?_
      refine g_ldcw hE wk_RX8_273 dX8_get_40 ?_
      obtain ⟨rfl, rfl⟩ := so2 hf
      exact g_iret hE rfl dX8_get_43
  replace hf := hx2
  clear hx2
  refine g_iload_n hE dX8_get_0 rfl ?_
  obtain ⟨r11, hc10, hf⟩ := b1_of hf
  refine g_callS1r hE ms_X8_isSheet wm_RX8_151 (by decide) (Nat.le_of_ble_eq_true rfl) dX8_get_1 (c_X8_isSheet hc10) ?_
  refine g_if_eq 16 hE dX8_get_4 (by decide) (fun h12 => ?_) (fun h12 => ?_)
  · replace hf := it_f hf (fun q => q h12)
    obtain rfl := so1 hf
    exact hT3 rfl
  · replace hf := it_t hf h12
    refine g_iload_n hE dX8_get_7 rfl ?_
    refine g_iconst hE (0) dX8_get_8 (by decide) ?_
    refine g_iconst hE (2) dX8_get_9 (by decide) ?_
    obtain ⟨r14, hc13, hf⟩ := b1_of hf
    refine g_callS3r hE ms_X8_in wm_RX8_98 (by decide) (Nat.le_of_ble_eq_true rfl) dX8_get_10 (c_X8_in hc13) ?_
    refine g_if_ne 20 hE dX8_get_13 (by decide) (fun h15 => ?_) (fun h15 => ?_)
    · replace hf := it_t hf h15
      obtain rfl := so1 hf
      exact hF4 rfl
    · replace hf := it_f hf (fun q => q h15)
      obtain rfl := so1 hf
      exact hT3 rfl
set_option maxHeartbeats 4000000 in
set_option maxRecDepth 100000 in
theorem c_X8_copy {l : Launch} {w : WC} {s_ : Int32} {i_ : Int32} {t_ : Int32} {j_ : Int32} {n_ : Int32} {z : Sg} {r0 : Int32} {z0 : Sg} (hf : f_X8_copy s_ i_ t_ j_ n_ z = some (r0, z0)) : CT true l iX8_copy w [.ref 0, .int s_, .int i_, .int t_, .int j_, .int n_] z (some (.int r0)) z0 := by
  refine ct_of 1 (lv := [some (.ref 0), some (.int s_), some (.int i_), some (.int t_), some (.int j_), some (.int n_), none]) (by decide +kernel) rfl (Nat.le_of_ble_eq_true rfl) rfl (fun M hl hw hE => ?_)
  subst hl
  subst hw
  unfold f_X8_copy at hf
  obtain ⟨q1, hx2, hf⟩ := b1_of hf
  have hT3 : q1 = true → G true iX8_copy M (some (.int r0), z0) 14 [some (.ref 0), some (.int s_), some (.int i_), some (.int t_), some (.int j_), some (.int n_), none] [] z := by
    intro hq5
    replace hf := it_t hf hq5
    refine g_bipush hE (-2) dX8_copy_14 (by decide) ?_
    obtain ⟨rfl, rfl⟩ := so2 hf
    exact g_iret hE rfl dX8_copy_16
  have hF4 : q1 = false → G true iX8_copy M (some (.int r0), z0) 17 [some (.ref 0), some (.int s_), some (.int i_), some (.int t_), some (.int j_), some (.int n_), none] [] z := by
    intro hq5
    replace hf := it_f hf (by rw [hq5]; decide)
    obtain ⟨q6, hx7, hf⟩ := b1_of hf
    have hT8 : q6 = true → G true iX8_copy M (some (.int r0), z0) 35 [some (.ref 0), some (.int s_), some (.int i_), some (.int t_), some (.int j_), some (.int n_), none] [] z := by
      intro hq10
      replace hf := it_t hf hq10
      refine g_aload_n hE dX8_copy_35 rfl ?_
      refine g_iconst hE (1) dX8_copy_36 (by decide) ?_
      obtain ⟨r13, z12, hc11, hf⟩ := b2_of hf
      refine g_callV1r hE mv_X8_meets kM_0 rfl wm_RX8_154 (by decide) (Nat.le_of_ble_eq_true rfl) dX8_copy_37 (c_X8_meets hc11) ?_
      obtain ⟨rfl, rfl⟩ := so2 hf
      exact g_iret hE rfl dX8_copy_40
    have hF9 : q6 = false → G true iX8_copy M (some (.int r0), z0) 41 [some (.ref 0), some (.int s_), some (.int i_), some (.int t_), some (.int j_), some (.int n_), none] [] z := by
      intro hq10
      replace hf := it_f hf (by rw [hq10]; decide)
      refine g_aload_n hE dX8_copy_41 rfl ?_
      refine gtX8_32 hE kM_0 wf_RX8_77 dX8_copy_42 ?_
      refine g_iload_n hE dX8_copy_45 rfl ?_
      obtain ⟨h14, hf⟩ := ck_of hf
      refine g_iald hE kM_23 h14 dX8_copy_46 ?_
      refine g_aload_n hE dX8_copy_47 rfl ?_
      refine gtX8_32 hE kM_0 wf_RX8_77 dX8_copy_48 ?_
      refine g_iload_n hE dX8_copy_51 rfl ?_
      obtain ⟨h15, hf⟩ := ck_of hf
      refine g_iald hE kM_23 h15 dX8_copy_52 ?_
      refine g_icmp_eq 62 hE dX8_copy_53 (by decide) (fun h16 => ?_) (fun h16 => ?_)
      · replace hf := it_f hf (fun q => q h16)
        obtain ⟨q17, hx18, hf⟩ := b1_of hf
        have hT19 : q17 = true → G true iX8_copy M (some (.int r0), z0) 111 [some (.ref 0), some (.int s_), some (.int i_), some (.int t_), some (.int j_), some (.int n_), none] [] z := by
          intro hq21
          replace hf := it_t hf hq21
          refine g_aload_n hE dX8_copy_111 rfl ?_
          refine g_iconst hE (2) dX8_copy_112 (by decide) ?_
          obtain ⟨r24, z23, hc22, hf⟩ := b2_of hf
          refine g_callV1r hE mv_X8_meets kM_0 rfl wm_RX8_154 (by decide) (Nat.le_of_ble_eq_true rfl) dX8_copy_113 (c_X8_meets hc22) ?_
          obtain ⟨rfl, rfl⟩ := so2 hf
          exact g_iret hE rfl dX8_copy_116
        have hF20 : q17 = false → G true iX8_copy M (some (.int r0), z0) 117 [some (.ref 0), some (.int s_), some (.int i_), some (.int t_), some (.int j_), some (.int n_), none] [] z := by
          intro hq21
          replace hf := it_f hf (by rw [hq21]; decide)
          refine g_iconst hE (0) dX8_copy_117 (by decide) ?_
          refine g_istore [some _, some _, some _, some _, some _, some _, some _] hE dX8_copy_118 (by decide) rfl ?_
          obtain ⟨z32, hx30, hf⟩ := b1_of hf
          have hJ31 : G true iX8_copy M (some (.int r0), z0) 154 [some (.ref 0), some (.int s_), some (.int i_), some (.int t_), some (.int j_), some (.int n_), none] [] z32 := by
            refine g_iconst hE (0) dX8_copy_154 (by decide) ?_
            refine g_istore [some _, some _, some _, some _, some _, some _, some _] hE dX8_copy_155 (by decide) rfl ?_
            obtain ⟨z40, hx38, hf⟩ := b1_of hf
            have hJ39 : G true iX8_copy M (some (.int r0), z0) 192 [some (.ref 0), some (.int s_), some (.int i_), some (.int t_), some (.int j_), some (.int n_), none] [] z40 := by
              refine g_iconst hE (1) dX8_copy_192 (by decide) ?_
              obtain ⟨rfl, rfl⟩ := so2 hf
              exact g_iret hE rfl dX8_copy_193
            clear hf
            have hl35 : ∀ (n37 : Nat) (k_33 : Int32) (z34 : Sg), f_X8_copy_lp2 t_ j_ n_ n37 k_33 z34 = some z40 → G true iX8_copy M (some (.int r0), z0) 157 [some (.ref 0), some (.int s_), some (.int i_), some (.int t_), some (.int j_), some (.int n_), some (.int k_33)] [] z34 := by
              intro n37
              induction n37 with
              | zero => intro k_33 z34 hf; cases hf
              | succ n37 ih36 =>
                intro k_33 z34 hf
                rw [f_X8_copy_lp2] at hf
                refine g_iload hE dX8_copy_157 rfl ?_
                refine g_iload hE dX8_copy_159 rfl ?_
                refine g_icmp_ge 192 hE dX8_copy_161 (by decide) (fun h41 => ?_) (fun h41 => ?_)
                · replace hf := it_f hf (cv_ngt h41)
                  obtain rfl := so1 hf
                  exact g_wk [true, true, true, true, true, true, false] rfl hJ39
                · replace hf := it_t hf (cv_gt h41)
                  refine g_aload_n hE dX8_copy_164 rfl ?_
                  refine gtX8_34 hE kM_0 wf_RX8_83 dX8_copy_165 ?_
                  refine g_bipush hE (48) dX8_copy_168 (by decide) ?_
                  refine g_iload_n hE dX8_copy_170 rfl ?_
                  refine g_imul hE dX8_copy_171 ?_
                  refine g_iload hE dX8_copy_172 rfl ?_
                  refine g_iadd hE dX8_copy_174 ?_
                  refine g_iload hE dX8_copy_175 rfl ?_
                  refine g_iadd hE dX8_copy_177 ?_
                  refine g_aload_n hE dX8_copy_178 rfl ?_
                  refine gtX8_35 hE kM_0 wf_RX8_86 dX8_copy_179 ?_
                  refine g_iload hE dX8_copy_182 rfl ?_
                  obtain ⟨h42, hf⟩ := ck_of hf
                  refine g_iald hE kM_26 h42 dX8_copy_184 ?_
                  obtain ⟨h43, hf⟩ := ck_of hf
                  refine g_iast hE kM_25 h43 dX8_copy_185 ?_
                  refine g_iinc [some _, some _, some _, some _, some _, some _, some _] hE (k_33 + (1 : Int32)) dX8_copy_186 rfl rfl (by decide) rfl ?_
                  refine g_goto 157 hE dX8_copy_189 (by decide) ?_
                  exact (ih36 _ _ hf)
            exact hl35 _ _ _ hx38
          clear hf
          have hl27 : ∀ (n29 : Nat) (k_25 : Int32) (z26 : Sg), f_X8_copy_lp1 s_ i_ n_ n29 k_25 z26 = some z32 → G true iX8_copy M (some (.int r0), z0) 120 [some (.ref 0), some (.int s_), some (.int i_), some (.int t_), some (.int j_), some (.int n_), some (.int k_25)] [] z26 := by
            intro n29
            induction n29 with
            | zero => intro k_25 z26 hf; cases hf
            | succ n29 ih28 =>
              intro k_25 z26 hf
              rw [f_X8_copy_lp1] at hf
              refine g_iload hE dX8_copy_120 rfl ?_
              refine g_iload hE dX8_copy_122 rfl ?_
              refine g_icmp_ge 154 hE dX8_copy_124 (by decide) (fun h44 => ?_) (fun h44 => ?_)
              · replace hf := it_f hf (cv_ngt h44)
                obtain rfl := so1 hf
                exact g_wk [true, true, true, true, true, true, false] rfl hJ31
              · replace hf := it_t hf (cv_gt h44)
                refine g_aload_n hE dX8_copy_127 rfl ?_
                refine gtX8_35 hE kM_0 wf_RX8_86 dX8_copy_128 ?_
                refine g_iload hE dX8_copy_131 rfl ?_
                refine g_aload_n hE dX8_copy_133 rfl ?_
                refine gtX8_34 hE kM_0 wf_RX8_83 dX8_copy_134 ?_
                refine g_bipush hE (48) dX8_copy_137 (by decide) ?_
                refine g_iload_n hE dX8_copy_139 rfl ?_
                refine g_imul hE dX8_copy_140 ?_
                refine g_iload_n hE dX8_copy_141 rfl ?_
                refine g_iadd hE dX8_copy_142 ?_
                refine g_iload hE dX8_copy_143 rfl ?_
                refine g_iadd hE dX8_copy_145 ?_
                obtain ⟨h45, hf⟩ := ck_of hf
                refine g_iald hE kM_25 h45 dX8_copy_146 ?_
                obtain ⟨h46, hf⟩ := ck_of hf
                refine g_iast hE kM_26 h46 dX8_copy_147 ?_
                refine g_iinc [some _, some _, some _, some _, some _, some _, some _] hE (k_25 + (1 : Int32)) dX8_copy_148 rfl rfl (by decide) rfl ?_
                refine g_goto 120 hE dX8_copy_151 (by decide) ?_
                exact (ih28 _ _ hf)
          exact hl27 _ _ _ hx30
        replace hf := hx18
        clear hx18
        refine g_iload_n hE dX8_copy_62 rfl ?_
        refine g_if_lt 111 hE dX8_copy_63 (by decide) (fun h47 => ?_) (fun h47 => ?_)
        · replace hf := it_t hf h47
          obtain rfl := so1 hf
          exact hT19 rfl
        · replace hf := it_f hf h47
          refine g_iload hE dX8_copy_66 rfl ?_
          refine g_if_lt 111 hE dX8_copy_68 (by decide) (fun h48 => ?_) (fun h48 => ?_)
          · replace hf := it_t hf h48
            obtain rfl := so1 hf
            exact hT19 rfl
          · replace hf := it_f hf h48
            refine g_iload hE dX8_copy_71 rfl ?_
            refine g_if_lt 111 hE dX8_copy_73 (by decide) (fun h49 => ?_) (fun h49 => ?_)
            · replace hf := it_t hf h49
              obtain rfl := so1 hf
              exact hT19 rfl
            · replace hf := it_f hf h49
              refine g_iload_n hE dX8_copy_76 rfl ?_
              refine g_i2l hE dX8_copy_77 ?_
              refine g_iload hE dX8_copy_78 rfl ?_
              refine g_i2l hE dX8_copy_80 ?_
              refine g_ladd hE dX8_copy_81 ?_
              refine g_aload_n hE dX8_copy_82 rfl ?_
              refine gtX8_33 hE kM_0 wf_RX8_80 dX8_copy_83 ?_
              refine g_iload_n hE dX8_copy_86 rfl ?_
              obtain ⟨h50, hf⟩ := ck_of hf
              refine g_iald hE kM_24 h50 dX8_copy_87 ?_
              refine g_i2l hE dX8_copy_88 ?_
              refine g_lcmp hE dX8_copy_89 ?_
              refine g_if_gt 111 hE dX8_copy_90 (by decide) (fun h51 => ?_) (fun h51 => ?_)
              · replace hf := it_t hf h51
                obtain rfl := so1 hf
                exact hT19 rfl
              · replace hf := it_f hf h51
                refine g_iload hE dX8_copy_93 rfl ?_
                refine g_i2l hE dX8_copy_95 ?_
                refine g_iload hE dX8_copy_96 rfl ?_
                refine g_i2l hE dX8_copy_98 ?_
                refine g_ladd hE dX8_copy_99 ?_
                refine g_aload_n hE dX8_copy_100 rfl ?_
                refine gtX8_33 hE kM_0 wf_RX8_80 dX8_copy_101 ?_
                refine g_iload_n hE dX8_copy_104 rfl ?_
                obtain ⟨h52, hf⟩ := ck_of hf
                refine g_iald hE kM_24 h52 dX8_copy_105 ?_
                refine g_i2l hE dX8_copy_106 ?_
                refine g_lcmp hE dX8_copy_107 ?_
                refine g_if_le 117 hE dX8_copy_108 (by decide) (fun h53 => ?_) (fun h53 => ?_)
                · replace hf := it_f hf (cv_ngt h53)
                  obtain rfl := so1 hf
                  exact hF20 rfl
                · replace hf := it_t hf (cv_gt h53)
                  obtain rfl := so1 hf
                  exact hT19 rfl
      · replace hf := it_t hf h16
        refine g_aload_n hE dX8_copy_56 rfl ?_
        refine g_iconst hE (4) dX8_copy_57 (by decide) ?_
        obtain ⟨r56, z55, hc54, hf⟩ := b2_of hf
        refine g_callV1r hE mv_X8_meets kM_0 rfl wm_RX8_154 (by decide) (Nat.le_of_ble_eq_true rfl) dX8_copy_58 (c_X8_meets hc54) ?_
        obtain ⟨rfl, rfl⟩ := so2 hf
        exact g_iret hE rfl dX8_copy_61
    replace hf := hx7
    clear hx7
    refine g_aload_n hE dX8_copy_17 rfl ?_
    refine gtX8_31 hE kM_0 wf_RX8_73 dX8_copy_18 ?_
    refine g_iload_n hE dX8_copy_21 rfl ?_
    obtain ⟨h57, hf⟩ := ck_of hf
    refine g_zald hE kM_22 h57 dX8_copy_22 ?_
    refine g_if_eq 35 hE dX8_copy_23 (by decide) (fun h58 => ?_) (fun h58 => ?_)
    · replace hf := it_f hf (fun q => q h58)
      obtain rfl := so1 hf
      exact hT8 rfl
    · replace hf := it_t hf h58
      refine g_aload_n hE dX8_copy_26 rfl ?_
      refine gtX8_31 hE kM_0 wf_RX8_73 dX8_copy_27 ?_
      refine g_iload_n hE dX8_copy_30 rfl ?_
      obtain ⟨h59, hf⟩ := ck_of hf
      refine g_zald hE kM_22 h59 dX8_copy_31 ?_
      refine g_if_ne 41 hE dX8_copy_32 (by decide) (fun h60 => ?_) (fun h60 => ?_)
      · replace hf := it_t hf h60
        obtain rfl := so1 hf
        exact hF9 rfl
      · replace hf := it_f hf (fun q => q h60)
        obtain rfl := so1 hf
        exact hT8 rfl
  replace hf := hx2
  clear hx2
  refine g_iload_n hE dX8_copy_0 rfl ?_
  obtain ⟨r62, hc61, hf⟩ := b1_of hf
  refine g_callS1r hE ms_X8_isSheet wm_RX8_151 (by decide) (Nat.le_of_ble_eq_true rfl) dX8_copy_1 (c_X8_isSheet hc61) ?_
  refine g_if_eq 14 hE dX8_copy_4 (by decide) (fun h63 => ?_) (fun h63 => ?_)
  · replace hf := it_f hf (fun q => q h63)
    obtain rfl := so1 hf
    exact hT3 rfl
  · replace hf := it_t hf h63
    refine g_iload_n hE dX8_copy_7 rfl ?_
    obtain ⟨r65, hc64, hf⟩ := b1_of hf
    refine g_callS1r hE ms_X8_isSheet wm_RX8_151 (by decide) (Nat.le_of_ble_eq_true rfl) dX8_copy_8 (c_X8_isSheet hc64) ?_
    refine g_if_ne 17 hE dX8_copy_11 (by decide) (fun h66 => ?_) (fun h66 => ?_)
    · replace hf := it_t hf h66
      obtain rfl := so1 hf
      exact hF4 rfl
    · replace hf := it_f hf (fun q => q h66)
      obtain rfl := so1 hf
      exact hT3 rfl
set_option maxHeartbeats 4000000 in
set_option maxRecDepth 100000 in
theorem c_X8_write {l : Launch} {w : WC} {s_ : Int32} {z : Sg} {r0 : Int32} {z0 : Sg} (hf : f_X8_write s_ z = some (r0, z0)) : CT true l iX8_write w [.ref 0, .int s_] z (some (.int r0)) z0 := by
  refine ct_of 1 (lv := [some (.ref 0), some (.int s_), none]) (by decide +kernel) rfl (Nat.le_of_ble_eq_true rfl) rfl (fun M hl hw hE => ?_)
  subst hl
  subst hw
  unfold f_X8_write at hf
  refine g_iload_n hE dX8_write_0 rfl ?_
  obtain ⟨r2, hc1, hf⟩ := b1_of hf
  refine g_callS1r hE ms_X8_isSheet wm_RX8_151 (by decide) (Nat.le_of_ble_eq_true rfl) dX8_write_1 (c_X8_isSheet hc1) ?_
  refine g_if_ne 10 hE dX8_write_4 (by decide) (fun h3 => ?_) (fun h3 => ?_)
  · replace hf := it_t hf h3
    refine g_aload_n hE dX8_write_10 rfl ?_
    refine gtX8_31 hE kM_0 wf_RX8_73 dX8_write_11 ?_
    refine g_iload_n hE dX8_write_14 rfl ?_
    obtain ⟨h4, hf⟩ := ck_of hf
    refine g_zald hE kM_22 h4 dX8_write_15 ?_
    refine g_if_ne 25 hE dX8_write_16 (by decide) (fun h5 => ?_) (fun h5 => ?_)
    · replace hf := it_t hf h5
      refine g_iconst hE (0) dX8_write_25 (by decide) ?_
      refine g_istore_n [some _, some _, some _] hE dX8_write_26 (by decide) rfl ?_
      obtain ⟨n_13, z14, hx11, hf⟩ := b2_of hf
      have hJ12 : G true iX8_write M (some (.int r0), z0) 61 [some (.ref 0), some (.int s_), some (.int n_13)] [] z14 := by
        refine g_iload_n hE dX8_write_61 rfl ?_
        obtain ⟨rfl, rfl⟩ := so2 hf
        exact g_iret hE rfl dX8_write_62
      clear hf
      have hl8 : ∀ (n10 : Nat) (n_6 : Int32) (z7 : Sg), f_X8_write_lp1 s_ n10 n_6 z7 = some (n_13, z14) → G true iX8_write M (some (.int r0), z0) 27 [some (.ref 0), some (.int s_), some (.int n_6)] [] z7 := by
        intro n10
        induction n10 with
        | zero => intro n_6 z7 hf; cases hf
        | succ n10 ih9 =>
          intro n_6 z7 hf
          rw [f_X8_write_lp1] at hf
          obtain ⟨q15, hx16, hf⟩ := b1_of hf
          have hT17 : q15 = true → G true iX8_write M (some (.int r0), z0) 43 [some (.ref 0), some (.int s_), some (.int n_6)] [] z7 := by
            intro hq19
            replace hf := it_t hf hq19
            refine g_aload_n hE dX8_write_43 rfl ?_
            refine g_iload_n hE dX8_write_44 rfl ?_
            refine g_iload_n hE dX8_write_45 rfl ?_
            refine g_aload_n hE dX8_write_46 rfl ?_
            refine g_iload_n hE dX8_write_47 rfl ?_
            refine g_iconst hE (0) dX8_write_48 (by decide) ?_
            obtain ⟨r22, z21, hc20, hf⟩ := b2_of hf
            refine g_callV2r hE mv_X8_behindOf kM_0 rfl wm_RX8_194 (by decide) (Nat.le_of_ble_eq_true rfl) dX8_write_49 (c_X8_behindOf hc20) ?_
            obtain ⟨z24, hc23, hf⟩ := b1_of hf
            refine g_callV3v hE mv_X8_keep kM_0 rfl wm_RX8_270 (by decide) (Nat.le_of_ble_eq_true rfl) dX8_write_52 (c_X8_keep hc23) ?_
            refine g_iinc [some _, some _, some _] hE (n_6 + (1 : Int32)) dX8_write_55 rfl rfl (by decide) rfl ?_
            refine g_goto 27 hE dX8_write_58 (by decide) ?_
            exact (ih9 _ _ hf)
          have hF18 : q15 = false → G true iX8_write M (some (.int r0), z0) 61 [some (.ref 0), some (.int s_), some (.int n_6)] [] z7 := by
            intro hq19
            replace hf := it_f hf (by rw [hq19]; decide)
            obtain ⟨rfl, rfl⟩ := so2 hf
            exact hJ12
          replace hf := hx16
          clear hx16
          refine g_iload_n hE dX8_write_27 rfl ?_
          refine g_aload_n hE dX8_write_28 rfl ?_
          refine gtX8_33 hE kM_0 wf_RX8_80 dX8_write_29 ?_
          refine g_iload_n hE dX8_write_32 rfl ?_
          obtain ⟨h25, hf⟩ := ck_of hf
          refine g_iald hE kM_24 h25 dX8_write_33 ?_
          refine g_icmp_ge 61 hE dX8_write_34 (by decide) (fun h26 => ?_) (fun h26 => ?_)
          · replace hf := it_f hf (cv_ngt h26)
            obtain rfl := so1 hf
            exact hF18 rfl
          · replace hf := it_t hf (cv_gt h26)
            refine g_iload_n hE dX8_write_37 rfl ?_
            refine g_bipush hE (40) dX8_write_38 (by decide) ?_
            refine g_icmp_ge 61 hE dX8_write_40 (by decide) (fun h27 => ?_) (fun h27 => ?_)
            · replace hf := it_f hf (cv_ngt h27)
              obtain rfl := so1 hf
              exact hF18 rfl
            · replace hf := it_t hf (cv_gt h27)
              obtain rfl := so1 hf
              exact hT17 rfl
      exact hl8 _ _ _ hx11
    · replace hf := it_f hf (fun q => q h5)
      refine g_aload_n hE dX8_write_19 rfl ?_
      refine g_iconst hE (1) dX8_write_20 (by decide) ?_
      obtain ⟨r30, z29, hc28, hf⟩ := b2_of hf
      refine g_callV1r hE mv_X8_meets kM_0 rfl wm_RX8_154 (by decide) (Nat.le_of_ble_eq_true rfl) dX8_write_21 (c_X8_meets hc28) ?_
      obtain ⟨rfl, rfl⟩ := so2 hf
      exact g_iret hE rfl dX8_write_24
  · replace hf := it_f hf (fun q => q h3)
    refine g_bipush hE (-2) dX8_write_7 (by decide) ?_
    obtain ⟨rfl, rfl⟩ := so2 hf
    exact g_iret hE rfl dX8_write_9
set_option maxHeartbeats 4000000 in
set_option maxRecDepth 100000 in
theorem c_X8_sumOf {l : Launch} {w : WC} {what_ : Int32} {z : Sg} {r0 : Int32} {z0 : Sg} (hf : f_X8_sumOf what_ z = some (r0, z0)) : CT true l iX8_sumOf w [.ref 0, .int what_] z (some (.int r0)) z0 := by
  refine ct_of 2 (lv := [some (.ref 0), some (.int what_), none, none]) (by decide +kernel) rfl (Nat.le_of_ble_eq_true rfl) rfl (fun M hl hw hE => ?_)
  subst hl
  subst hw
  unfold f_X8_sumOf at hf
  refine g_aload_n hE dX8_sumOf_0 rfl ?_
  obtain ⟨z2, hc1, hf⟩ := b1_of hf
  refine g_callV0v hE mv_X8_reads kM_0 rfl wm_RX8_123 (by decide) (Nat.le_of_ble_eq_true rfl) dX8_sumOf_1 (c_X8_reads hc1) ?_
  refine g_iconst hE (0) dX8_sumOf_4 (by decide) ?_
  refine g_istore_n [some _, some _, some _, none] hE dX8_sumOf_5 (by decide) rfl ?_
  refine g_iconst hE (0) dX8_sumOf_6 (by decide) ?_
  refine g_istore_n [some _, some _, some _, some _] hE dX8_sumOf_7 (by decide) rfl ?_
  obtain ⟨sum_10, hx8, hf⟩ := b1_of hf
  have hJ9 : G true iX8_sumOf M (some (.int r0), z0) 31 [some (.ref 0), some (.int what_), some (.int sum_10), none] [] z2 := by
    obtain ⟨x11, hx12, hf⟩ := b1_of hf
    have hJ13 : G true iX8_sumOf M (some (.int r0), z0) 55 [some (.ref 0), some (.int what_), some (.int sum_10), none] [.int x11] z2 := by
      obtain ⟨rfl, rfl⟩ := so2 hf
      exact g_iret hE rfl dX8_sumOf_55
    replace hf := hx12
    clear hx12
    refine g_iload_n hE dX8_sumOf_31 rfl ?_
    refine g_if_ne 42 hE dX8_sumOf_32 (by decide) (fun h14 => ?_) (fun h14 => ?_)
    · replace hf := it_f hf h14
      obtain ⟨x15, hx16, hf⟩ := b1_of hf
      have hJ17 : G true iX8_sumOf M (some (.int r0), z0) 55 [some (.ref 0), some (.int what_), some (.int sum_10), none] [.int x15] z2 := by
        obtain rfl := so1 hf
        exact hJ13
      replace hf := hx16
      clear hx16
      refine g_iload_n hE dX8_sumOf_42 rfl ?_
      refine g_iconst hE (1) dX8_sumOf_43 (by decide) ?_
      refine g_icmp_ne 54 hE dX8_sumOf_44 (by decide) (fun h18 => ?_) (fun h18 => ?_)
      · replace hf := it_f hf h18
        refine g_iload_n hE dX8_sumOf_54 rfl ?_
        obtain rfl := so1 hf
        exact hJ17
      · replace hf := it_t hf h18
        refine g_aload_n hE dX8_sumOf_47 rfl ?_
        refine gtX8_5 hE kM_0 wf_RX8_109 dX8_sumOf_48 ?_
        refine g_goto 55 hE dX8_sumOf_51 (by decide) ?_
        obtain rfl := so1 hf
        exact hJ17
    · replace hf := it_t hf h14
      refine g_aload_n hE dX8_sumOf_35 rfl ?_
      refine gtX8_2 hE kM_0 wf_RX8_106 dX8_sumOf_36 ?_
      refine g_goto 55 hE dX8_sumOf_39 (by decide) ?_
      obtain rfl := so1 hf
      exact hJ13
  clear hf
  have hl5 : ∀ (n7 : Nat) (sum_3 : Int32) (v_4 : Int32), f_X8_sumOf_lp1 z2 n7 sum_3 v_4 = some sum_10 → G true iX8_sumOf M (some (.int r0), z0) 8 [some (.ref 0), some (.int what_), some (.int sum_3), some (.int v_4)] [] z2 := by
    intro n7
    induction n7 with
    | zero => intro sum_3 v_4 hf; cases hf
    | succ n7 ih6 =>
      intro sum_3 v_4 hf
      rw [f_X8_sumOf_lp1] at hf
      refine g_iload_n hE dX8_sumOf_8 rfl ?_
      refine g_aload_n hE dX8_sumOf_9 rfl ?_
      refine gtX8_2 hE kM_0 wf_RX8_106 dX8_sumOf_10 ?_
      refine g_icmp_ge 31 hE dX8_sumOf_13 (by decide) (fun h19 => ?_) (fun h19 => ?_)
      · replace hf := it_f hf (cv_ngt h19)
        obtain rfl := so1 hf
        exact g_wk [true, true, true, false] rfl hJ9
      · replace hf := it_t hf (cv_gt h19)
        refine g_iload_n hE dX8_sumOf_16 rfl ?_
        refine g_aload_n hE dX8_sumOf_17 rfl ?_
        refine gtX8_4 hE kM_0 wf_RX8_19 dX8_sumOf_18 ?_
        refine g_iload_n hE dX8_sumOf_21 rfl ?_
        obtain ⟨h20, hf⟩ := ck_of hf
        refine g_iald hE kM_4 h20 dX8_sumOf_22 ?_
        refine g_iadd hE dX8_sumOf_23 ?_
        refine g_istore_n [some _, some _, some _, some _] hE dX8_sumOf_24 (by decide) rfl ?_
        refine g_iinc [some _, some _, some _, some _] hE (v_4 + (1 : Int32)) dX8_sumOf_25 rfl rfl (by decide) rfl ?_
        refine g_goto 8 hE dX8_sumOf_28 (by decide) ?_
        exact (ih6 _ _ hf)
  exact hl5 _ _ _ hx8
set_option maxHeartbeats 4000000 in
set_option maxRecDepth 100000 in
theorem c_X8_count {l : Launch} {w : WC} {what_ : Int32} {z : Sg} {r0 : Int32} {z0 : Sg} (hf : f_X8_count what_ z = some (r0, z0)) : CT true l iX8_count w [.ref 0, .int what_] z (some (.int r0)) z0 := by
  refine ct_of 0 (lv := [some (.ref 0), some (.int what_)]) (by decide +kernel) rfl (Nat.le_of_ble_eq_true rfl) rfl (fun M hl hw hE => ?_)
  subst hl
  subst hw
  unfold f_X8_count at hf
  refine g_iload_n hE dX8_count_0 rfl ?_
  by_cases hs0 : what_ = 0
  · replace hf := it_t hf hs0
    subst hs0
    refine g_tabIn 52 hE dX8_count_1 (by decide) (by decide) rfl (by decide) ?_
    refine g_aload_n hE dX8_count_52 rfl ?_
    refine g_iload_n hE dX8_count_53 rfl ?_
    obtain ⟨r6, z5, hc4, hf⟩ := b2_of hf
    refine g_callV1r hE mv_X8_sumOf kM_0 rfl wm_RX8_274 (by decide) (Nat.le_of_ble_eq_true rfl) dX8_count_54 (c_X8_sumOf hc4) ?_
    obtain ⟨rfl, rfl⟩ := so2 hf
    exact g_iret hE rfl dX8_count_57
  · replace hf := it_f hf hs0
    by_cases hs1 : what_ = 1
    · replace hf := it_t hf hs1
      subst hs1
      refine g_tabIn 52 hE dX8_count_1 (by decide) (by decide) rfl (by decide) ?_
      refine g_aload_n hE dX8_count_52 rfl ?_
      refine g_iload_n hE dX8_count_53 rfl ?_
      obtain ⟨r12, z11, hc10, hf⟩ := b2_of hf
      refine g_callV1r hE mv_X8_sumOf kM_0 rfl wm_RX8_274 (by decide) (Nat.le_of_ble_eq_true rfl) dX8_count_54 (c_X8_sumOf hc10) ?_
      obtain ⟨rfl, rfl⟩ := so2 hf
      exact g_iret hE rfl dX8_count_57
    · replace hf := it_f hf hs1
      by_cases hs2 : what_ = 2
      · replace hf := it_t hf hs2
        subst hs2
        refine g_tabIn 58 hE dX8_count_1 (by decide) (by decide) rfl (by decide) ?_
        refine g_aload_n hE dX8_count_58 rfl ?_
        refine gtX8_0 hE kM_0 wf_RX8_7 dX8_count_59 ?_
        refine g_iload_n hE dX8_count_62 rfl ?_
        refine g_iconst hE (2) dX8_count_63 (by decide) ?_
        refine g_isub hE dX8_count_64 ?_
        obtain ⟨h14, hf⟩ := ck_of hf
        refine g_iald hE kM_1 h14 dX8_count_65 ?_
        obtain ⟨rfl, rfl⟩ := so2 hf
        exact g_iret hE rfl dX8_count_66
      · replace hf := it_f hf hs2
        by_cases hs3 : what_ = 3
        · replace hf := it_t hf hs3
          subst hs3
          refine g_tabIn 58 hE dX8_count_1 (by decide) (by decide) rfl (by decide) ?_
          refine g_aload_n hE dX8_count_58 rfl ?_
          refine gtX8_0 hE kM_0 wf_RX8_7 dX8_count_59 ?_
          refine g_iload_n hE dX8_count_62 rfl ?_
          refine g_iconst hE (2) dX8_count_63 (by decide) ?_
          refine g_isub hE dX8_count_64 ?_
          obtain ⟨h16, hf⟩ := ck_of hf
          refine g_iald hE kM_1 h16 dX8_count_65 ?_
          obtain ⟨rfl, rfl⟩ := so2 hf
          exact g_iret hE rfl dX8_count_66
        · replace hf := it_f hf hs3
          by_cases hs4 : what_ = 4
          · replace hf := it_t hf hs4
            subst hs4
            refine g_tabIn 67 hE dX8_count_1 (by decide) (by decide) rfl (by decide) ?_
            refine g_aload_n hE dX8_count_67 rfl ?_
            refine gtX8_12 hE kM_0 wf_RX8_145 dX8_count_68 ?_
            obtain ⟨rfl, rfl⟩ := so2 hf
            exact g_iret hE rfl dX8_count_71
          · replace hf := it_f hf hs4
            by_cases hs5 : what_ = 5
            · replace hf := it_t hf hs5
              subst hs5
              refine g_tabIn 72 hE dX8_count_1 (by decide) (by decide) rfl (by decide) ?_
              refine g_aload_n hE dX8_count_72 rfl ?_
              refine gtX8_15 hE kM_0 wf_RX8_148 dX8_count_73 ?_
              obtain ⟨rfl, rfl⟩ := so2 hf
              exact g_iret hE rfl dX8_count_76
            · replace hf := it_f hf hs5
              by_cases hs6 : what_ = 6
              · replace hf := it_t hf hs6
                subst hs6
                refine g_tabIn 77 hE dX8_count_1 (by decide) (by decide) rfl (by decide) ?_
                refine g_aload_n hE dX8_count_77 rfl ?_
                refine gtX8_27 hE kM_0 wf_RX8_254 dX8_count_78 ?_
                obtain ⟨rfl, rfl⟩ := so2 hf
                exact g_iret hE rfl dX8_count_81
              · replace hf := it_f hf hs6
                by_cases hs7 : what_ = 7
                · replace hf := it_t hf hs7
                  subst hs7
                  refine g_tabIn 52 hE dX8_count_1 (by decide) (by decide) rfl (by decide) ?_
                  refine g_aload_n hE dX8_count_52 rfl ?_
                  refine g_iload_n hE dX8_count_53 rfl ?_
                  obtain ⟨r22, z21, hc20, hf⟩ := b2_of hf
                  refine g_callV1r hE mv_X8_sumOf kM_0 rfl wm_RX8_274 (by decide) (Nat.le_of_ble_eq_true rfl) dX8_count_54 (c_X8_sumOf hc20) ?_
                  obtain ⟨rfl, rfl⟩ := so2 hf
                  exact g_iret hE rfl dX8_count_57
                · replace hf := it_f hf hs7
                  by_cases hs8 : what_ = 8
                  · replace hf := it_t hf hs8
                    subst hs8
                    refine g_tabIn 82 hE dX8_count_1 (by decide) (by decide) rfl (by decide) ?_
                    refine g_aload_n hE dX8_count_82 rfl ?_
                    refine gtX8_36 hE kM_0 wf_RX8_264 dX8_count_83 ?_
                    obtain ⟨rfl, rfl⟩ := so2 hf
                    exact g_iret hE rfl dX8_count_86
                  · replace hf := it_f hf hs8
                    refine g_tabOut 87 hE dX8_count_1 (by have a0 : (what_).toInt ≠ 0 := ne_toInt hs0; have a1 : (what_).toInt ≠ 1 := ne_toInt hs1; have a2 : (what_).toInt ≠ 2 := ne_toInt hs2; have a3 : (what_).toInt ≠ 3 := ne_toInt hs3; have a4 : (what_).toInt ≠ 4 := ne_toInt hs4; have a5 : (what_).toInt ≠ 5 := ne_toInt hs5; have a6 : (what_).toInt ≠ 6 := ne_toInt hs6; have a7 : (what_).toInt ≠ 7 := ne_toInt hs7; have a8 : (what_).toInt ≠ 8 := ne_toInt hs8; omega) (by decide) ?_
                    refine g_bipush hE (-2) dX8_count_87 (by decide) ?_
                    obtain ⟨rfl, rfl⟩ := so2 hf
                    exact g_iret hE rfl dX8_count_89
set_option maxHeartbeats 4000000 in
set_option maxRecDepth 100000 in
theorem c_X8_virtueDigest {l : Launch} {w : WC} {before_ : Int64} {v_ : Int32} {z : Sg} {r0 : Int64} {z0 : Sg} (hf : f_X8_virtueDigest before_ v_ z = some (r0, z0)) : CT true l iX8_virtueDigest w [.ref 0, .long before_, .int v_] z (some (.long r0)) z0 := by
  refine ct_of 2 (lv := [some (.ref 0), some (.long before_), none, some (.int v_), none, none]) (by decide +kernel) rfl (Nat.le_of_ble_eq_true rfl) rfl (fun M hl hw hE => ?_)
  subst hl
  subst hw
  unfold f_X8_virtueDigest at hf
  refine g_lload_n hE dX8_virtueDigest_0 rfl ?_
  refine g_lstore [some _, some _, none, some _, some _, none] hE dX8_virtueDigest_1 (by decide) rfl ?_
  refine g_ldc2 hE wk_RX8_277 dX8_virtueDigest_3 ?_
  refine g_lload hE dX8_virtueDigest_6 rfl ?_
  refine g_lmul hE dX8_virtueDigest_8 ?_
  refine g_aload_n hE dX8_virtueDigest_9 rfl ?_
  refine gtX8_3 hE kM_0 wf_RX8_16 dX8_virtueDigest_10 ?_
  refine g_iload_n hE dX8_virtueDigest_13 rfl ?_
  obtain ⟨h1, hf⟩ := ck_of hf
  refine g_iald hE kM_3 h1 dX8_virtueDigest_14 ?_
  refine g_i2l hE dX8_virtueDigest_15 ?_
  refine g_ladd hE dX8_virtueDigest_16 ?_
  refine g_lstore [some _, some _, none, some _, some _, none] hE dX8_virtueDigest_17 (by decide) rfl ?_
  refine g_ldc2 hE wk_RX8_277 dX8_virtueDigest_19 ?_
  refine g_lload hE dX8_virtueDigest_22 rfl ?_
  refine g_lmul hE dX8_virtueDigest_24 ?_
  refine g_aload_n hE dX8_virtueDigest_25 rfl ?_
  refine gtX8_4 hE kM_0 wf_RX8_19 dX8_virtueDigest_26 ?_
  refine g_iload_n hE dX8_virtueDigest_29 rfl ?_
  obtain ⟨h2, hf⟩ := ck_of hf
  refine g_iald hE kM_4 h2 dX8_virtueDigest_30 ?_
  refine g_i2l hE dX8_virtueDigest_31 ?_
  refine g_ladd hE dX8_virtueDigest_32 ?_
  refine g_lstore [some _, some _, none, some _, some _, none] hE dX8_virtueDigest_33 (by decide) rfl ?_
  refine g_ldc2 hE wk_RX8_277 dX8_virtueDigest_35 ?_
  refine g_lload hE dX8_virtueDigest_38 rfl ?_
  refine g_lmul hE dX8_virtueDigest_40 ?_
  refine g_aload_n hE dX8_virtueDigest_41 rfl ?_
  refine g_iload_n hE dX8_virtueDigest_42 rfl ?_
  refine g_iconst hE (0) dX8_virtueDigest_43 (by decide) ?_
  obtain ⟨r5, z4, hc3, hf⟩ := b2_of hf
  refine g_callV2r hE mv_X8_goneOf kM_0 rfl wm_RX8_197 (by decide) (Nat.le_of_ble_eq_true rfl) dX8_virtueDigest_44 (c_X8_goneOf hc3) ?_
  refine g_i2l hE dX8_virtueDigest_47 ?_
  refine g_ladd hE dX8_virtueDigest_48 ?_
  refine g_lstore [some _, some _, none, some _, some _, none] hE dX8_virtueDigest_49 (by decide) rfl ?_
  refine g_ldc2 hE wk_RX8_277 dX8_virtueDigest_51 ?_
  refine g_lload hE dX8_virtueDigest_54 rfl ?_
  refine g_lmul hE dX8_virtueDigest_56 ?_
  refine g_aload_n hE dX8_virtueDigest_57 rfl ?_
  refine g_iload_n hE dX8_virtueDigest_58 rfl ?_
  refine g_iconst hE (1) dX8_virtueDigest_59 (by decide) ?_
  obtain ⟨r8, z7, hc6, hf⟩ := b2_of hf
  refine g_callV2r hE mv_X8_goneOf kM_0 rfl wm_RX8_197 (by decide) (Nat.le_of_ble_eq_true rfl) dX8_virtueDigest_60 (c_X8_goneOf hc6) ?_
  refine g_i2l hE dX8_virtueDigest_63 ?_
  refine g_ladd hE dX8_virtueDigest_64 ?_
  refine g_lstore [some _, some _, none, some _, some _, none] hE dX8_virtueDigest_65 (by decide) rfl ?_
  refine g_ldc2 hE wk_RX8_277 dX8_virtueDigest_67 ?_
  refine g_lload hE dX8_virtueDigest_70 rfl ?_
  refine g_lmul hE dX8_virtueDigest_72 ?_
  refine g_aload_n hE dX8_virtueDigest_73 rfl ?_
  refine g_iconst hE (1) dX8_virtueDigest_74 (by decide) ?_
  refine g_iload_n hE dX8_virtueDigest_75 rfl ?_
  obtain ⟨r10, hc9, hf⟩ := b1_of hf
  refine g_callV2r hE mv_X8_fittingOf kM_0 rfl wm_RX8_213 (by decide) (Nat.le_of_ble_eq_true rfl) dX8_virtueDigest_76 (c_X8_fittingOf hc9) ?_
  refine g_i2l hE dX8_virtueDigest_79 ?_
  refine g_ladd hE dX8_virtueDigest_80 ?_
  refine g_lstore [some _, some _, none, some _, some _, none] hE dX8_virtueDigest_81 (by decide) rfl ?_
  refine g_ldc2 hE wk_RX8_277 dX8_virtueDigest_83 ?_
  refine g_lload hE dX8_virtueDigest_86 rfl ?_
  refine g_lmul hE dX8_virtueDigest_88 ?_
  refine g_aload_n hE dX8_virtueDigest_89 rfl ?_
  refine g_iload_n hE dX8_virtueDigest_90 rfl ?_
  obtain ⟨r13, z12, hc11, hf⟩ := b2_of hf
  refine g_callV1r hE mv_X8_matchAt kM_0 rfl wm_RX8_219 (by decide) (Nat.le_of_ble_eq_true rfl) dX8_virtueDigest_91 (c_X8_matchAt hc11) ?_
  refine g_i2l hE dX8_virtueDigest_94 ?_
  refine g_ladd hE dX8_virtueDigest_95 ?_
  refine g_lstore [some _, some _, none, some _, some _, none] hE dX8_virtueDigest_96 (by decide) rfl ?_
  refine g_ldc2 hE wk_RX8_277 dX8_virtueDigest_98 ?_
  refine g_lload hE dX8_virtueDigest_101 rfl ?_
  refine g_lmul hE dX8_virtueDigest_103 ?_
  refine g_aload_n hE dX8_virtueDigest_104 rfl ?_
  refine g_iload_n hE dX8_virtueDigest_105 rfl ?_
  obtain ⟨r15, hc14, hf⟩ := b1_of hf
  refine g_callV1r hE mv_X8_lieOf kM_0 rfl wm_RX8_225 (by decide) (Nat.le_of_ble_eq_true rfl) dX8_virtueDigest_106 (c_X8_lieOf hc14) ?_
  refine g_i2l hE dX8_virtueDigest_109 ?_
  refine g_ladd hE dX8_virtueDigest_110 ?_
  refine g_lstore [some _, some _, none, some _, some _, none] hE dX8_virtueDigest_111 (by decide) rfl ?_
  refine g_ldc2 hE wk_RX8_277 dX8_virtueDigest_113 ?_
  refine g_lload hE dX8_virtueDigest_116 rfl ?_
  refine g_lmul hE dX8_virtueDigest_118 ?_
  refine g_aload_n hE dX8_virtueDigest_119 rfl ?_
  refine g_iload_n hE dX8_virtueDigest_120 rfl ?_
  refine g_iconst hE (0) dX8_virtueDigest_121 (by decide) ?_
  obtain ⟨r18, z17, hc16, hf⟩ := b2_of hf
  refine g_callV2r hE mv_X8_guess kM_0 rfl wm_RX8_279 (by decide) (Nat.le_of_ble_eq_true rfl) dX8_virtueDigest_122 (c_X8_guess hc16) ?_
  refine g_ladd hE dX8_virtueDigest_125 ?_
  refine g_lstore [some _, some _, none, some _, some _, none] hE dX8_virtueDigest_126 (by decide) rfl ?_
  refine g_ldc2 hE wk_RX8_277 dX8_virtueDigest_128 ?_
  refine g_lload hE dX8_virtueDigest_131 rfl ?_
  refine g_lmul hE dX8_virtueDigest_133 ?_
  refine g_aload_n hE dX8_virtueDigest_134 rfl ?_
  refine g_iload_n hE dX8_virtueDigest_135 rfl ?_
  refine g_iconst hE (1) dX8_virtueDigest_136 (by decide) ?_
  obtain ⟨r21, z20, hc19, hf⟩ := b2_of hf
  refine g_callV2r hE mv_X8_guess kM_0 rfl wm_RX8_279 (by decide) (Nat.le_of_ble_eq_true rfl) dX8_virtueDigest_137 (c_X8_guess hc19) ?_
  refine g_ladd hE dX8_virtueDigest_140 ?_
  refine g_lstore [some _, some _, none, some _, some _, none] hE dX8_virtueDigest_141 (by decide) rfl ?_
  refine g_ldc2 hE wk_RX8_277 dX8_virtueDigest_143 ?_
  refine g_lload hE dX8_virtueDigest_146 rfl ?_
  refine g_lmul hE dX8_virtueDigest_148 ?_
  refine g_aload_n hE dX8_virtueDigest_149 rfl ?_
  refine g_iload_n hE dX8_virtueDigest_150 rfl ?_
  obtain ⟨r24, z23, hc22, hf⟩ := b2_of hf
  refine g_callV1r hE mv_X8_togetherOf kM_0 rfl wm_RX8_251 (by decide) (Nat.le_of_ble_eq_true rfl) dX8_virtueDigest_151 (c_X8_togetherOf hc22) ?_
  refine g_i2l hE dX8_virtueDigest_154 ?_
  refine g_ladd hE dX8_virtueDigest_155 ?_
  refine g_lstore [some _, some _, none, some _, some _, none] hE dX8_virtueDigest_156 (by decide) rfl ?_
  refine g_ldc2 hE wk_RX8_277 dX8_virtueDigest_158 ?_
  refine g_lload hE dX8_virtueDigest_161 rfl ?_
  refine g_lmul hE dX8_virtueDigest_163 ?_
  refine g_aload_n hE dX8_virtueDigest_164 rfl ?_
  refine g_iload_n hE dX8_virtueDigest_165 rfl ?_
  obtain ⟨r27, z26, hc25, hf⟩ := b2_of hf
  refine g_callV1r hE mv_X8_whenOf kM_0 rfl wm_RX8_257 (by decide) (Nat.le_of_ble_eq_true rfl) dX8_virtueDigest_166 (c_X8_whenOf hc25) ?_
  refine g_i2l hE dX8_virtueDigest_169 ?_
  refine g_ladd hE dX8_virtueDigest_170 ?_
  obtain ⟨rfl, rfl⟩ := so2 hf
  exact g_lret hE rfl dX8_virtueDigest_171
set_option maxHeartbeats 4000000 in
set_option maxRecDepth 100000 in
theorem c_X8_weekDigest {l : Launch} {w : WC} {before_ : Int64} {week_ : Int32} {z : Sg} {r0 : Int64} {z0 : Sg} (hf : f_X8_weekDigest before_ week_ z = some (r0, z0)) : CT true l iX8_weekDigest w [.ref 0, .long before_, .int week_] z (some (.long r0)) z0 := by
  refine ct_of 3 (lv := [some (.ref 0), some (.long before_), none, some (.int week_), none, none, none]) (by decide +kernel) rfl (Nat.le_of_ble_eq_true rfl) rfl (fun M hl hw hE => ?_)
  subst hl
  subst hw
  unfold f_X8_weekDigest at hf
  refine g_lload_n hE dX8_weekDigest_0 rfl ?_
  refine g_lstore [some _, some _, none, some _, some _, none, none] hE dX8_weekDigest_1 (by decide) rfl ?_
  refine g_iconst hE (0) dX8_weekDigest_3 (by decide) ?_
  refine g_istore [some _, some _, none, some _, some _, none, some _] hE dX8_weekDigest_4 (by decide) rfl ?_
  obtain ⟨h_9, z10, hx7, hf⟩ := b2_of hf
  have hJ8 : G true iX8_weekDigest M (some (.long r0), z0) 35 [some (.ref 0), some (.long before_), none, some (.int week_), some (.long h_9), none, none] [] z10 := by
    refine g_lload hE dX8_weekDigest_35 rfl ?_
    obtain ⟨rfl, rfl⟩ := so2 hf
    exact g_lret hE rfl dX8_weekDigest_37
  clear hf
  have hl4 : ∀ (n6 : Nat) (h_1 : Int64) (what_2 : Int32) (z3 : Sg), f_X8_weekDigest_lp1 week_ n6 h_1 what_2 z3 = some (h_9, z10) → G true iX8_weekDigest M (some (.long r0), z0) 6 [some (.ref 0), some (.long before_), none, some (.int week_), some (.long h_1), none, some (.int what_2)] [] z3 := by
    intro n6
    induction n6 with
    | zero => intro h_1 what_2 z3 hf; cases hf
    | succ n6 ih5 =>
      intro h_1 what_2 z3 hf
      rw [f_X8_weekDigest_lp1] at hf
      refine g_iload hE dX8_weekDigest_6 rfl ?_
      refine g_iconst hE (3) dX8_weekDigest_8 (by decide) ?_
      refine g_icmp_ge 35 hE dX8_weekDigest_9 (by decide) (fun h11 => ?_) (fun h11 => ?_)
      · replace hf := it_f hf (cv_ngt h11)
        obtain ⟨rfl, rfl⟩ := so2 hf
        exact g_wk [true, true, false, true, true, false, false] rfl hJ8
      · replace hf := it_t hf (cv_gt h11)
        refine g_ldc2 hE wk_RX8_277 dX8_weekDigest_12 ?_
        refine g_lload hE dX8_weekDigest_15 rfl ?_
        refine g_lmul hE dX8_weekDigest_17 ?_
        refine g_aload_n hE dX8_weekDigest_18 rfl ?_
        refine g_iload_n hE dX8_weekDigest_19 rfl ?_
        refine g_iload hE dX8_weekDigest_20 rfl ?_
        obtain ⟨r14, z13, hc12, hf⟩ := b2_of hf
        refine g_callV2r hE mv_X8_behindOf kM_0 rfl wm_RX8_194 (by decide) (Nat.le_of_ble_eq_true rfl) dX8_weekDigest_22 (c_X8_behindOf hc12) ?_
        refine g_i2l hE dX8_weekDigest_25 ?_
        refine g_ladd hE dX8_weekDigest_26 ?_
        refine g_lstore [some _, some _, none, some _, some _, none, some _] hE dX8_weekDigest_27 (by decide) rfl ?_
        refine g_iinc [some _, some _, none, some _, some _, none, some _] hE (what_2 + (1 : Int32)) dX8_weekDigest_29 rfl rfl (by decide) rfl ?_
        refine g_goto 6 hE dX8_weekDigest_32 (by decide) ?_
        exact (ih5 _ _ _ hf)
  exact hl4 _ _ _ _ hx7
set_option maxHeartbeats 4000000 in
set_option maxRecDepth 100000 in
theorem c_X8_digest {l : Launch} {w : WC} {z : Sg} {r0 : Int64} {z0 : Sg} (hf : f_X8_digest z = some (r0, z0)) : CT true l iX8_digest w [.ref 0] z (some (.long r0)) z0 := by
  refine ct_of 4 (lv := [some (.ref 0), none, none, none, none]) (by decide +kernel) rfl (Nat.le_of_ble_eq_true rfl) rfl (fun M hl hw hE => ?_)
  subst hl
  subst hw
  unfold f_X8_digest at hf
  refine g_ldc2 hE wk_RX8_283 dX8_digest_0 ?_
  refine g_lstore_n [some _, some _, none, none, none] hE dX8_digest_3 (by decide) rfl ?_
  refine g_iconst hE (0) dX8_digest_4 (by decide) ?_
  refine g_istore_n [some _, some _, none, some _, none] hE dX8_digest_5 (by decide) rfl ?_
  obtain ⟨h_9, z10, hx7, hf⟩ := b2_of hf
  have hJ8 : G true iX8_digest M (some (.long r0), z0) 31 [some (.ref 0), some (.long h_9), none, none, none] [] z10 := by
    refine g_ldc2 hE wk_RX8_277 dX8_digest_31 ?_
    refine g_lload_n hE dX8_digest_34 rfl ?_
    refine g_lmul hE dX8_digest_35 ?_
    refine g_aload_n hE dX8_digest_36 rfl ?_
    refine g_iconst hE (0) dX8_digest_37 (by decide) ?_
    obtain ⟨r13, z12, hc11, hf⟩ := b2_of hf
    refine g_callV1r hE mv_X8_faultOf kM_0 rfl wm_RX8_120 (by decide) (Nat.le_of_ble_eq_true rfl) dX8_digest_38 (c_X8_faultOf hc11) ?_
    refine g_i2l hE dX8_digest_41 ?_
    refine g_ladd hE dX8_digest_42 ?_
    refine g_lstore_n [some _, some _, none, none, none] hE dX8_digest_43 (by decide) rfl ?_
    refine g_ldc2 hE wk_RX8_277 dX8_digest_44 ?_
    refine g_lload_n hE dX8_digest_47 rfl ?_
    refine g_lmul hE dX8_digest_48 ?_
    refine g_aload_n hE dX8_digest_49 rfl ?_
    refine g_iconst hE (1) dX8_digest_50 (by decide) ?_
    obtain ⟨r16, z15, hc14, hf⟩ := b2_of hf
    refine g_callV1r hE mv_X8_faultOf kM_0 rfl wm_RX8_120 (by decide) (Nat.le_of_ble_eq_true rfl) dX8_digest_51 (c_X8_faultOf hc14) ?_
    refine g_i2l hE dX8_digest_54 ?_
    refine g_ladd hE dX8_digest_55 ?_
    refine g_lstore_n [some _, some _, none, none, none] hE dX8_digest_56 (by decide) rfl ?_
    refine g_iconst hE (0) dX8_digest_57 (by decide) ?_
    refine g_istore_n [some _, some _, none, some _, none] hE dX8_digest_58 (by decide) rfl ?_
    obtain ⟨h_25, z26, hx23, hf⟩ := b2_of hf
    have hJ24 : G true iX8_digest M (some (.long r0), z0) 80 [some (.ref 0), some (.long h_25), none, none, none] [] z26 := by
      refine g_iconst hE (0) dX8_digest_80 (by decide) ?_
      refine g_istore_n [some _, some _, none, some _, none] hE dX8_digest_81 (by decide) rfl ?_
      obtain ⟨h_34, hx32, hf⟩ := b1_of hf
      have hJ33 : G true iX8_digest M (some (.long r0), z0) 153 [some (.ref 0), some (.long h_34), none, none, none] [] z26 := by
        refine g_aload_n hE dX8_digest_153 rfl ?_
        refine g_lload_n hE dX8_digest_154 rfl ?_
        refine g_iconst hE (0) dX8_digest_155 (by decide) ?_
        obtain ⟨r37, z36, hc35, hf⟩ := b2_of hf
        refine g_callV2r hE mv_X8_weekDigest kM_0 rfl wm_RX8_292 (by decide) (Nat.le_of_ble_eq_true rfl) dX8_digest_156 (c_X8_weekDigest hc35) ?_
        refine g_lstore_n [some _, some _, none, none, none] hE dX8_digest_159 (by decide) rfl ?_
        refine g_aload_n hE dX8_digest_160 rfl ?_
        refine g_lload_n hE dX8_digest_161 rfl ?_
        refine g_iconst hE (1) dX8_digest_162 (by decide) ?_
        obtain ⟨r40, z39, hc38, hf⟩ := b2_of hf
        refine g_callV2r hE mv_X8_weekDigest kM_0 rfl wm_RX8_292 (by decide) (Nat.le_of_ble_eq_true rfl) dX8_digest_163 (c_X8_weekDigest hc38) ?_
        refine g_lstore_n [some _, some _, none, none, none] hE dX8_digest_166 (by decide) rfl ?_
        refine g_aload_n hE dX8_digest_167 rfl ?_
        refine g_lload_n hE dX8_digest_168 rfl ?_
        refine g_iconst hE (5) dX8_digest_169 (by decide) ?_
        obtain ⟨r43, z42, hc41, hf⟩ := b2_of hf
        refine g_callV2r hE mv_X8_weekDigest kM_0 rfl wm_RX8_292 (by decide) (Nat.le_of_ble_eq_true rfl) dX8_digest_170 (c_X8_weekDigest hc41) ?_
        refine g_lstore_n [some _, some _, none, none, none] hE dX8_digest_173 (by decide) rfl ?_
        refine g_aload_n hE dX8_digest_174 rfl ?_
        refine g_lload_n hE dX8_digest_175 rfl ?_
        refine g_bipush hE (39) dX8_digest_176 (by decide) ?_
        obtain ⟨r46, z45, hc44, hf⟩ := b2_of hf
        refine g_callV2r hE mv_X8_weekDigest kM_0 rfl wm_RX8_292 (by decide) (Nat.le_of_ble_eq_true rfl) dX8_digest_178 (c_X8_weekDigest hc44) ?_
        refine g_lstore_n [some _, some _, none, none, none] hE dX8_digest_181 (by decide) rfl ?_
        refine g_ldc2 hE wk_RX8_277 dX8_digest_182 ?_
        refine g_lload_n hE dX8_digest_185 rfl ?_
        refine g_lmul hE dX8_digest_186 ?_
        refine g_aload_n hE dX8_digest_187 rfl ?_
        obtain ⟨r49, z48, hc47, hf⟩ := b2_of hf
        refine g_callV0r hE mv_X8_emptyNow kM_0 rfl wm_RX8_200 (by decide) (Nat.le_of_ble_eq_true rfl) dX8_digest_188 (c_X8_emptyNow hc47) ?_
        refine g_i2l hE dX8_digest_191 ?_
        refine g_ladd hE dX8_digest_192 ?_
        refine g_lstore_n [some _, some _, none, none, none] hE dX8_digest_193 (by decide) rfl ?_
        refine g_ldc2 hE wk_RX8_277 dX8_digest_194 ?_
        refine g_lload_n hE dX8_digest_197 rfl ?_
        refine g_lmul hE dX8_digest_198 ?_
        refine g_aload_n hE dX8_digest_199 rfl ?_
        obtain ⟨r52, z51, hc50, hf⟩ := b2_of hf
        refine g_callV0r hE mv_X8_saleNow kM_0 rfl wm_RX8_207 (by decide) (Nat.le_of_ble_eq_true rfl) dX8_digest_200 (c_X8_saleNow hc50) ?_
        refine g_i2l hE dX8_digest_203 ?_
        refine g_ladd hE dX8_digest_204 ?_
        refine g_lstore_n [some _, some _, none, none, none] hE dX8_digest_205 (by decide) rfl ?_
        refine g_ldc2 hE wk_RX8_277 dX8_digest_206 ?_
        refine g_lload_n hE dX8_digest_209 rfl ?_
        refine g_lmul hE dX8_digest_210 ?_
        refine g_aload_n hE dX8_digest_211 rfl ?_
        obtain ⟨r55, z54, hc53, hf⟩ := b2_of hf
        refine g_callV0r hE mv_X8_saintOf kM_0 rfl wm_RX8_210 (by decide) (Nat.le_of_ble_eq_true rfl) dX8_digest_212 (c_X8_saintOf hc53) ?_
        refine g_i2l hE dX8_digest_215 ?_
        refine g_ladd hE dX8_digest_216 ?_
        refine g_lstore_n [some _, some _, none, none, none] hE dX8_digest_217 (by decide) rfl ?_
        refine g_ldc2 hE wk_RX8_277 dX8_digest_218 ?_
        refine g_lload_n hE dX8_digest_221 rfl ?_
        refine g_lmul hE dX8_digest_222 ?_
        refine g_aload_n hE dX8_digest_223 rfl ?_
        refine g_bipush hE (-2) dX8_digest_224 (by decide) ?_
        obtain ⟨r58, z57, hc56, hf⟩ := b2_of hf
        refine g_callV1r hE mv_X8_matchAt kM_0 rfl wm_RX8_219 (by decide) (Nat.le_of_ble_eq_true rfl) dX8_digest_226 (c_X8_matchAt hc56) ?_
        refine g_i2l hE dX8_digest_229 ?_
        refine g_ladd hE dX8_digest_230 ?_
        refine g_lstore_n [some _, some _, none, none, none] hE dX8_digest_231 (by decide) rfl ?_
        refine g_ldc2 hE wk_RX8_277 dX8_digest_232 ?_
        refine g_lload_n hE dX8_digest_235 rfl ?_
        refine g_lmul hE dX8_digest_236 ?_
        refine g_aload_n hE dX8_digest_237 rfl ?_
        refine g_iconst hE (-1) dX8_digest_238 (by decide) ?_
        obtain ⟨r61, z60, hc59, hf⟩ := b2_of hf
        refine g_callV1r hE mv_X8_matchAt kM_0 rfl wm_RX8_219 (by decide) (Nat.le_of_ble_eq_true rfl) dX8_digest_239 (c_X8_matchAt hc59) ?_
        refine g_i2l hE dX8_digest_242 ?_
        refine g_ladd hE dX8_digest_243 ?_
        refine g_lstore_n [some _, some _, none, none, none] hE dX8_digest_244 (by decide) rfl ?_
        refine g_ldc2 hE wk_RX8_277 dX8_digest_245 ?_
        refine g_lload_n hE dX8_digest_248 rfl ?_
        refine g_lmul hE dX8_digest_249 ?_
        refine g_aload_n hE dX8_digest_250 rfl ?_
        refine g_bipush hE (8) dX8_digest_251 (by decide) ?_
        obtain ⟨r64, z63, hc62, hf⟩ := b2_of hf
        refine g_callV1r hE mv_X8_guardOf kM_0 rfl wm_RX8_239 (by decide) (Nat.le_of_ble_eq_true rfl) dX8_digest_253 (c_X8_guardOf hc62) ?_
        refine g_i2l hE dX8_digest_256 ?_
        refine g_ladd hE dX8_digest_257 ?_
        refine g_lstore_n [some _, some _, none, none, none] hE dX8_digest_258 (by decide) rfl ?_
        refine g_ldc2 hE wk_RX8_277 dX8_digest_259 ?_
        refine g_lload_n hE dX8_digest_262 rfl ?_
        refine g_lmul hE dX8_digest_263 ?_
        refine g_aload_n hE dX8_digest_264 rfl ?_
        refine g_iconst hE (-1) dX8_digest_265 (by decide) ?_
        obtain ⟨r67, z66, hc65, hf⟩ := b2_of hf
        refine g_callV1r hE mv_X8_shelvesOf kM_0 rfl wm_RX8_242 (by decide) (Nat.le_of_ble_eq_true rfl) dX8_digest_266 (c_X8_shelvesOf hc65) ?_
        refine g_i2l hE dX8_digest_269 ?_
        refine g_ladd hE dX8_digest_270 ?_
        refine g_lstore_n [some _, some _, none, none, none] hE dX8_digest_271 (by decide) rfl ?_
        refine g_ldc2 hE wk_RX8_277 dX8_digest_272 ?_
        refine g_lload_n hE dX8_digest_275 rfl ?_
        refine g_lmul hE dX8_digest_276 ?_
        refine g_aload_n hE dX8_digest_277 rfl ?_
        refine g_iconst hE (0) dX8_digest_278 (by decide) ?_
        obtain ⟨r70, z69, hc68, hf⟩ := b2_of hf
        refine g_callV1r hE mv_X8_shelvesOf kM_0 rfl wm_RX8_242 (by decide) (Nat.le_of_ble_eq_true rfl) dX8_digest_279 (c_X8_shelvesOf hc68) ?_
        refine g_i2l hE dX8_digest_282 ?_
        refine g_ladd hE dX8_digest_283 ?_
        refine g_lstore_n [some _, some _, none, none, none] hE dX8_digest_284 (by decide) rfl ?_
        refine g_ldc2 hE wk_RX8_277 dX8_digest_285 ?_
        refine g_lload_n hE dX8_digest_288 rfl ?_
        refine g_lmul hE dX8_digest_289 ?_
        refine g_aload_n hE dX8_digest_290 rfl ?_
        refine g_iconst hE (-1) dX8_digest_291 (by decide) ?_
        obtain ⟨r73, z72, hc71, hf⟩ := b2_of hf
        refine g_callV1r hE mv_X8_togetherOf kM_0 rfl wm_RX8_251 (by decide) (Nat.le_of_ble_eq_true rfl) dX8_digest_292 (c_X8_togetherOf hc71) ?_
        refine g_i2l hE dX8_digest_295 ?_
        refine g_ladd hE dX8_digest_296 ?_
        refine g_lstore_n [some _, some _, none, none, none] hE dX8_digest_297 (by decide) rfl ?_
        refine g_ldc2 hE wk_RX8_277 dX8_digest_298 ?_
        refine g_lload_n hE dX8_digest_301 rfl ?_
        refine g_lmul hE dX8_digest_302 ?_
        refine g_aload_n hE dX8_digest_303 rfl ?_
        refine g_bipush hE (7) dX8_digest_304 (by decide) ?_
        refine g_bipush hE (20) dX8_digest_306 (by decide) ?_
        refine g_iconst hE (0) dX8_digest_308 (by decide) ?_
        obtain ⟨r76, z75, hc74, hf⟩ := b2_of hf
        refine g_callV3r hE mv_X8_weeksOf kM_0 rfl wm_RX8_261 (by decide) (Nat.le_of_ble_eq_true rfl) dX8_digest_309 (c_X8_weeksOf hc74) ?_
        refine g_i2l hE dX8_digest_312 ?_
        refine g_ladd hE dX8_digest_313 ?_
        refine g_lstore_n [some _, some _, none, none, none] hE dX8_digest_314 (by decide) rfl ?_
        refine g_ldc2 hE wk_RX8_277 dX8_digest_315 ?_
        refine g_lload_n hE dX8_digest_318 rfl ?_
        refine g_lmul hE dX8_digest_319 ?_
        refine g_aload_n hE dX8_digest_320 rfl ?_
        refine g_bipush hE (7) dX8_digest_321 (by decide) ?_
        refine g_bipush hE (20) dX8_digest_323 (by decide) ?_
        refine g_iconst hE (1) dX8_digest_325 (by decide) ?_
        obtain ⟨r79, z78, hc77, hf⟩ := b2_of hf
        refine g_callV3r hE mv_X8_weeksOf kM_0 rfl wm_RX8_261 (by decide) (Nat.le_of_ble_eq_true rfl) dX8_digest_326 (c_X8_weeksOf hc77) ?_
        refine g_i2l hE dX8_digest_329 ?_
        refine g_ladd hE dX8_digest_330 ?_
        obtain ⟨rfl, rfl⟩ := so2 hf
        exact g_lret hE rfl dX8_digest_331
      clear hf
      have hl29 : ∀ (n31 : Nat) (h_27 : Int64) (c_28 : Int32), f_X8_digest_lp3 z26 n31 h_27 c_28 = some h_34 → G true iX8_digest M (some (.long r0), z0) 82 [some (.ref 0), some (.long h_27), none, some (.int c_28), none] [] z26 := by
        intro n31
        induction n31 with
        | zero => intro h_27 c_28 hf; cases hf
        | succ n31 ih30 =>
          intro h_27 c_28 hf
          rw [f_X8_digest_lp3] at hf
          refine g_iload_n hE dX8_digest_82 rfl ?_
          refine g_aload_n hE dX8_digest_83 rfl ?_
          refine gtX8_5 hE kM_0 wf_RX8_109 dX8_digest_84 ?_
          refine g_icmp_ge 153 hE dX8_digest_87 (by decide) (fun h80 => ?_) (fun h80 => ?_)
          · replace hf := it_f hf (cv_ngt h80)
            obtain rfl := so1 hf
            exact g_wk [true, true, false, false, false] rfl hJ33
          · replace hf := it_t hf (cv_gt h80)
            refine g_iconst hE (0) dX8_digest_90 (by decide) ?_
            refine g_istore [some _, some _, none, some _, some _] hE dX8_digest_91 (by decide) rfl ?_
            obtain ⟨h_88, hx86, hf⟩ := b1_of hf
            have hJ87 : G true iX8_digest M (some (.long r0), z0) 120 [some (.ref 0), some (.long h_88), none, some (.int c_28), none] [] z26 := by
              refine g_ldc2 hE wk_RX8_277 dX8_digest_120 ?_
              refine g_lload_n hE dX8_digest_123 rfl ?_
              refine g_lmul hE dX8_digest_124 ?_
              refine g_aload_n hE dX8_digest_125 rfl ?_
              refine g_iconst hE (0) dX8_digest_126 (by decide) ?_
              refine g_iload_n hE dX8_digest_127 rfl ?_
              obtain ⟨r90, hc89, hf⟩ := b1_of hf
              refine g_callV2r hE mv_X8_fittingOf kM_0 rfl wm_RX8_213 (by decide) (Nat.le_of_ble_eq_true rfl) dX8_digest_128 (c_X8_fittingOf hc89) ?_
              refine g_i2l hE dX8_digest_131 ?_
              refine g_ladd hE dX8_digest_132 ?_
              refine g_lstore_n [some _, some _, none, some _, none] hE dX8_digest_133 (by decide) rfl ?_
              refine g_ldc2 hE wk_RX8_277 dX8_digest_134 ?_
              refine g_lload_n hE dX8_digest_137 rfl ?_
              refine g_lmul hE dX8_digest_138 ?_
              refine g_aload_n hE dX8_digest_139 rfl ?_
              refine g_iload_n hE dX8_digest_140 rfl ?_
              obtain ⟨r92, hc91, hf⟩ := b1_of hf
              refine g_callV1r hE mv_X8_askOf kM_0 rfl wm_RX8_222 (by decide) (Nat.le_of_ble_eq_true rfl) dX8_digest_141 (c_X8_askOf hc91) ?_
              refine g_i2l hE dX8_digest_144 ?_
              refine g_ladd hE dX8_digest_145 ?_
              refine g_lstore_n [some _, some _, none, some _, none] hE dX8_digest_146 (by decide) rfl ?_
              refine g_iinc [some _, some _, none, some _, none] hE (c_28 + (1 : Int32)) dX8_digest_147 rfl rfl (by decide) rfl ?_
              refine g_goto 82 hE dX8_digest_150 (by decide) ?_
              exact (ih30 _ _ hf)
            clear hf
            have hl83 : ∀ (n85 : Nat) (h_81 : Int64) (what_82 : Int32), f_X8_digest_lp4 c_28 z26 n85 h_81 what_82 = some h_88 → G true iX8_digest M (some (.long r0), z0) 93 [some (.ref 0), some (.long h_81), none, some (.int c_28), some (.int what_82)] [] z26 := by
              intro n85
              induction n85 with
              | zero => intro h_81 what_82 hf; cases hf
              | succ n85 ih84 =>
                intro h_81 what_82 hf
                rw [f_X8_digest_lp4] at hf
                refine g_iload hE dX8_digest_93 rfl ?_
                refine g_iconst hE (3) dX8_digest_95 (by decide) ?_
                refine g_icmp_ge 120 hE dX8_digest_96 (by decide) (fun h93 => ?_) (fun h93 => ?_)
                · replace hf := it_f hf (cv_ngt h93)
                  obtain rfl := so1 hf
                  exact g_wk [true, true, false, true, false] rfl hJ87
                · replace hf := it_t hf (cv_gt h93)
                  refine g_ldc2 hE wk_RX8_277 dX8_digest_99 ?_
                  refine g_lload_n hE dX8_digest_102 rfl ?_
                  refine g_lmul hE dX8_digest_103 ?_
                  refine g_aload_n hE dX8_digest_104 rfl ?_
                  refine g_iload_n hE dX8_digest_105 rfl ?_
                  refine g_iload hE dX8_digest_106 rfl ?_
                  obtain ⟨r95, hc94, hf⟩ := b1_of hf
                  refine g_callV2r hE mv_X8_claimantOf kM_0 rfl wm_RX8_132 (by decide) (Nat.le_of_ble_eq_true rfl) dX8_digest_108 (c_X8_claimantOf hc94) ?_
                  refine g_i2l hE dX8_digest_111 ?_
                  refine g_ladd hE dX8_digest_112 ?_
                  refine g_lstore_n [some _, some _, none, some _, some _] hE dX8_digest_113 (by decide) rfl ?_
                  refine g_iinc [some _, some _, none, some _, some _] hE (what_82 + (1 : Int32)) dX8_digest_114 rfl rfl (by decide) rfl ?_
                  refine g_goto 93 hE dX8_digest_117 (by decide) ?_
                  exact (ih84 _ _ hf)
            exact hl83 _ _ _ hx86
      exact hl29 _ _ _ hx32
    clear hf
    have hl20 : ∀ (n22 : Nat) (h_17 : Int64) (v_18 : Int32) (z19 : Sg), f_X8_digest_lp2  n22 h_17 v_18 z19 = some (h_25, z26) → G true iX8_digest M (some (.long r0), z0) 59 [some (.ref 0), some (.long h_17), none, some (.int v_18), none] [] z19 := by
      intro n22
      induction n22 with
      | zero => intro h_17 v_18 z19 hf; cases hf
      | succ n22 ih21 =>
        intro h_17 v_18 z19 hf
        rw [f_X8_digest_lp2] at hf
        refine g_iload_n hE dX8_digest_59 rfl ?_
        refine g_aload_n hE dX8_digest_60 rfl ?_
        refine gtX8_2 hE kM_0 wf_RX8_106 dX8_digest_61 ?_
        refine g_icmp_ge 80 hE dX8_digest_64 (by decide) (fun h96 => ?_) (fun h96 => ?_)
        · replace hf := it_f hf (cv_ngt h96)
          obtain ⟨rfl, rfl⟩ := so2 hf
          exact g_wk [true, true, false, false, false] rfl hJ24
        · replace hf := it_t hf (cv_gt h96)
          refine g_aload_n hE dX8_digest_67 rfl ?_
          refine g_lload_n hE dX8_digest_68 rfl ?_
          refine g_iload_n hE dX8_digest_69 rfl ?_
          obtain ⟨r99, z98, hc97, hf⟩ := b2_of hf
          refine g_callV2r hE mv_X8_virtueDigest kM_0 rfl wm_RX8_288 (by decide) (Nat.le_of_ble_eq_true rfl) dX8_digest_70 (c_X8_virtueDigest hc97) ?_
          refine g_lstore_n [some _, some _, none, some _, none] hE dX8_digest_73 (by decide) rfl ?_
          refine g_iinc [some _, some _, none, some _, none] hE (v_18 + (1 : Int32)) dX8_digest_74 rfl rfl (by decide) rfl ?_
          refine g_goto 59 hE dX8_digest_77 (by decide) ?_
          exact (ih21 _ _ _ hf)
    exact hl20 _ _ _ _ hx23
  clear hf
  have hl4 : ∀ (n6 : Nat) (h_1 : Int64) (what_2 : Int32) (z3 : Sg), f_X8_digest_lp1  n6 h_1 what_2 z3 = some (h_9, z10) → G true iX8_digest M (some (.long r0), z0) 6 [some (.ref 0), some (.long h_1), none, some (.int what_2), none] [] z3 := by
    intro n6
    induction n6 with
    | zero => intro h_1 what_2 z3 hf; cases hf
    | succ n6 ih5 =>
      intro h_1 what_2 z3 hf
      rw [f_X8_digest_lp1] at hf
      refine g_iload_n hE dX8_digest_6 rfl ?_
      refine g_bipush hE (8) dX8_digest_7 (by decide) ?_
      refine g_icmp_ge 31 hE dX8_digest_9 (by decide) (fun h100 => ?_) (fun h100 => ?_)
      · replace hf := it_f hf (cv_ngt h100)
        obtain ⟨rfl, rfl⟩ := so2 hf
        exact g_wk [true, true, false, false, false] rfl hJ8
      · replace hf := it_t hf (cv_gt h100)
        refine g_ldc2 hE wk_RX8_277 dX8_digest_12 ?_
        refine g_lload_n hE dX8_digest_15 rfl ?_
        refine g_lmul hE dX8_digest_16 ?_
        refine g_aload_n hE dX8_digest_17 rfl ?_
        refine g_iload_n hE dX8_digest_18 rfl ?_
        obtain ⟨r103, z102, hc101, hf⟩ := b2_of hf
        refine g_callV1r hE mv_X8_count kM_0 rfl wm_RX8_285 (by decide) (Nat.le_of_ble_eq_true rfl) dX8_digest_19 (c_X8_count hc101) ?_
        refine g_i2l hE dX8_digest_22 ?_
        refine g_ladd hE dX8_digest_23 ?_
        refine g_lstore_n [some _, some _, none, some _, none] hE dX8_digest_24 (by decide) rfl ?_
        refine g_iinc [some _, some _, none, some _, none] hE (what_2 + (1 : Int32)) dX8_digest_25 rfl rfl (by decide) rfl ?_
        refine g_goto 6 hE dX8_digest_28 (by decide) ?_
        exact (ih5 _ _ _ hf)
  exact hl4 _ _ _ _ hx7
