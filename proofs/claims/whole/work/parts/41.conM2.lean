/-! CONTRACTS. Printed by wip/whole/gen/mkall.py out of the Java text. -/
set_option maxHeartbeats 4000000 in
set_option maxRecDepth 100000 in
theorem c_X8_back {l : Launch} {w : WC} {what_ : Int32} {z : Sg} {r0 : Int32} {z0 : Sg} (hf : f_X8_back what_ z = some (r0, z0)) : CT true l iX8_back w [.ref 0, .int what_] z (some (.int r0)) z0 := by
  refine ct_of 1 (lv := [some (.ref 0), some (.int what_), none]) (by decide +kernel) rfl (Nat.le_of_ble_eq_true rfl) rfl (fun M hl hw hE => ?_)
  subst hl
  subst hw
  unfold f_X8_back at hf
  refine g_iload_n hE dX8_back_0 rfl ?_
  refine g_iconst hE (0) dX8_back_1 (by decide) ?_
  refine g_iconst hE (1) dX8_back_2 (by decide) ?_
  obtain ⟨r2, hc1, hf⟩ := b1_of hf
  refine g_callS3r hE ms_X8_in wm_RX8_98 (by decide) (Nat.le_of_ble_eq_true rfl) dX8_back_3 (c_X8_in hc1) ?_
  refine g_if_ne 12 hE dX8_back_6 (by decide) (fun h3 => ?_) (fun h3 => ?_)
  · replace hf := it_t hf h3
    obtain ⟨x4, hx5, hf⟩ := b1_of hf
    have hJ6 : G true iX8_back M (some (.int r0), z0) 27 [some (.ref 0), some (.int what_), none] [.int x4] z := by
      refine g_istore_n [some _, some _, some _] hE dX8_back_27 (by decide) rfl ?_
      refine g_iload_n hE dX8_back_28 rfl ?_
      refine g_if_ne 35 hE dX8_back_29 (by decide) (fun h7 => ?_) (fun h7 => ?_)
      · replace hf := it_f hf h7
        refine g_aload_n hE dX8_back_35 rfl ?_
        refine g_dup hE dX8_back_36 rfl ?_
        refine gtX8_12 hE kM_0 wf_RX8_145 dX8_back_37 ?_
        obtain ⟨x8, hx9, hf⟩ := b1_of hf
        have hJ10 : G true iX8_back M (some (.int r0), z0) 49 [some (.ref 0), some (.int what_), some (.int x4)] [.int x8, .int (rI z 0 12), .ref 0] z := by
          refine g_isub hE dX8_back_49 ?_
          refine ptX8_12 hE kM_0 wf_RX8_145 dX8_back_50 ?_
          refine g_aload_n hE dX8_back_53 rfl ?_
          refine g_dup hE dX8_back_54 rfl ?_
          refine gtX8_15 hE kM_0 wf_RX8_148 dX8_back_55 ?_
          obtain ⟨x11, hx12, hf⟩ := b1_of hf
          have hJ13 : G true iX8_back M (some (.int r0), z0) 68 [some (.ref 0), some (.int what_), some (.int x4)] [.int x11, .int (rI (wI z 0 12 ((rI z 0 12) - x8)) 0 15), .ref 0] (wI z 0 12 ((rI z 0 12) - x8)) := by
            refine g_isub hE dX8_back_68 ?_
            refine ptX8_15 hE kM_0 wf_RX8_148 dX8_back_69 ?_
            refine g_iload_n hE dX8_back_72 rfl ?_
            refine g_iconst hE (1) dX8_back_73 (by decide) ?_
            refine g_isub hE dX8_back_74 ?_
            obtain ⟨rfl, rfl⟩ := so2 hf
            exact g_iret hE rfl dX8_back_75
          replace hf := hx12
          clear hx12
          refine g_iload_n hE dX8_back_58 rfl ?_
          refine g_iconst hE (1) dX8_back_59 (by decide) ?_
          refine g_icmp_ne 67 hE dX8_back_60 (by decide) (fun h14 => ?_) (fun h14 => ?_)
          · replace hf := it_f hf h14
            refine g_iconst hE (0) dX8_back_67 (by decide) ?_
            obtain rfl := so1 hf
            exact hJ13
          · replace hf := it_t hf h14
            refine g_iconst hE (1) dX8_back_63 (by decide) ?_
            refine g_goto 68 hE dX8_back_64 (by decide) ?_
            obtain rfl := so1 hf
            exact hJ13
        replace hf := hx9
        clear hx9
        refine g_iload_n hE dX8_back_40 rfl ?_
        refine g_if_ne 48 hE dX8_back_41 (by decide) (fun h15 => ?_) (fun h15 => ?_)
        · replace hf := it_f hf h15
          refine g_iconst hE (0) dX8_back_48 (by decide) ?_
          obtain rfl := so1 hf
          exact hJ10
        · replace hf := it_t hf h15
          refine g_iconst hE (1) dX8_back_44 (by decide) ?_
          refine g_goto 49 hE dX8_back_45 (by decide) ?_
          obtain rfl := so1 hf
          exact hJ10
      · replace hf := it_t hf h7
        refine g_bipush hE (-3) dX8_back_32 (by decide) ?_
        obtain ⟨rfl, rfl⟩ := so2 hf
        exact g_iret hE rfl dX8_back_34
    replace hf := hx5
    clear hx5
    refine g_iload_n hE dX8_back_12 rfl ?_
    refine g_if_ne 23 hE dX8_back_13 (by decide) (fun h16 => ?_) (fun h16 => ?_)
    · replace hf := it_f hf h16
      refine g_aload_n hE dX8_back_23 rfl ?_
      refine gtX8_15 hE kM_0 wf_RX8_148 dX8_back_24 ?_
      obtain rfl := so1 hf
      exact hJ6
    · replace hf := it_t hf h16
      refine g_aload_n hE dX8_back_16 rfl ?_
      refine gtX8_12 hE kM_0 wf_RX8_145 dX8_back_17 ?_
      refine g_goto 27 hE dX8_back_20 (by decide) ?_
      obtain rfl := so1 hf
      exact hJ6
  · replace hf := it_f hf (fun q => q h3)
    refine g_bipush hE (-2) dX8_back_9 (by decide) ?_
    obtain ⟨rfl, rfl⟩ := so2 hf
    exact g_iret hE rfl dX8_back_11
set_option maxHeartbeats 4000000 in
set_option maxRecDepth 100000 in
theorem c_X8_isSheet {l : Launch} {w : WC} {s_ : Int32} {z : Sg} {r0 : Int32} (hf : f_X8_isSheet s_ = some r0) : CT true l iX8_isSheet w [.int s_] z (some (.int r0)) z := by
  refine ct_of 0 (lv := [some (.int s_)]) (by decide +kernel) rfl (Nat.le_of_ble_eq_true rfl) rfl (fun M hl hw hE => ?_)
  subst hl
  subst hw
  unfold f_X8_isSheet at hf
  refine g_iload_n hE dX8_isSheet_0 rfl ?_
  refine g_iconst hE (0) dX8_isSheet_1 (by decide) ?_
  refine g_iconst hE (3) dX8_isSheet_2 (by decide) ?_
  obtain ⟨r2, hc1, hf⟩ := b1_of hf
  refine g_callS3r hE ms_X8_in wm_RX8_98 (by decide) (Nat.le_of_ble_eq_true rfl) dX8_isSheet_3 (c_X8_in hc1) ?_
  obtain ⟨h3, hf⟩ := ck_of hf
  obtain rfl := so1 hf
  exact g_zret hE rfl (bz_nar h3) dX8_isSheet_6
set_option maxHeartbeats 4000000 in
set_option maxRecDepth 100000 in
theorem c_X8_meets {l : Launch} {w : WC} {number_ : Int32} {z : Sg} {r0 : Int32} {z0 : Sg} (hf : f_X8_meets number_ z = some (r0, z0)) : CT true l iX8_meets w [.ref 0, .int number_] z (some (.int r0)) z0 := by
  refine ct_of 0 (lv := [some (.ref 0), some (.int number_)]) (by decide +kernel) rfl (Nat.le_of_ble_eq_true rfl) rfl (fun M hl hw hE => ?_)
  subst hl
  subst hw
  unfold f_X8_meets at hf
  refine g_aload_n hE dX8_meets_0 rfl ?_
  refine g_iload_n hE dX8_meets_1 rfl ?_
  refine ptX8_36 hE kM_0 wf_RX8_264 dX8_meets_2 ?_
  refine g_bipush hE (-10) dX8_meets_5 (by decide) ?_
  refine g_iload_n hE dX8_meets_7 rfl ?_
  refine g_isub hE dX8_meets_8 ?_
  obtain ⟨rfl, rfl⟩ := so2 hf
  exact g_iret hE rfl dX8_meets_9
set_option maxHeartbeats 4000000 in
set_option maxRecDepth 100000 in
theorem c_X8_read {l : Launch} {w : WC} {s_ : Int32} {z : Sg} {r0 : Int32} {z0 : Sg} (hf : f_X8_read s_ z = some (r0, z0)) : CT true l iX8_read w [.ref 0, .int s_] z (some (.int r0)) z0 := by
  refine ct_of 1 (lv := [some (.ref 0), some (.int s_), none]) (by decide +kernel) rfl (Nat.le_of_ble_eq_true rfl) rfl (fun M hl hw hE => ?_)
  subst hl
  subst hw
  unfold f_X8_read at hf
  refine g_iload_n hE dX8_read_0 rfl ?_
  obtain ⟨r2, hc1, hf⟩ := b1_of hf
  refine g_callS1r hE ms_X8_isSheet wm_RX8_151 (by decide) (Nat.le_of_ble_eq_true rfl) dX8_read_1 (c_X8_isSheet hc1) ?_
  refine g_if_ne 10 hE dX8_read_4 (by decide) (fun h3 => ?_) (fun h3 => ?_)
  · replace hf := it_t hf h3
    refine g_aload_n hE dX8_read_10 rfl ?_
    refine gtX8_31 hE kM_0 wf_RX8_73 dX8_read_11 ?_
    refine g_iload_n hE dX8_read_14 rfl ?_
    obtain ⟨h4, hf⟩ := ck_of hf
    refine g_zald hE kM_22 h4 dX8_read_15 ?_
    refine g_if_ne 25 hE dX8_read_16 (by decide) (fun h5 => ?_) (fun h5 => ?_)
    · replace hf := it_t hf h5
      refine g_iconst hE (0) dX8_read_25 (by decide) ?_
      refine g_istore_n [some _, some _, some _] hE dX8_read_26 (by decide) rfl ?_
      obtain ⟨n_13, z14, hx11, hf⟩ := b2_of hf
      have hJ12 : G true iX8_read M (some (.int r0), z0) 82 [some (.ref 0), some (.int s_), some (.int n_13)] [] z14 := by
        refine g_iload_n hE dX8_read_82 rfl ?_
        obtain ⟨rfl, rfl⟩ := so2 hf
        exact g_iret hE rfl dX8_read_83
      clear hf
      have hl8 : ∀ (n10 : Nat) (n_6 : Int32) (z7 : Sg), f_X8_read_lp1 s_ n10 n_6 z7 = some (n_13, z14) → G true iX8_read M (some (.int r0), z0) 27 [some (.ref 0), some (.int s_), some (.int n_6)] [] z7 := by
        intro n10
        induction n10 with
        | zero => intro n_6 z7 hf; cases hf
        | succ n10 ih9 =>
          intro n_6 z7 hf
          rw [f_X8_read_lp1] at hf
          obtain ⟨q15, z16, hx17, hf⟩ := b2_of hf
          have hT18 : q15 = true → G true iX8_read M (some (.int r0), z0) 76 [some (.ref 0), some (.int s_), some (.int n_6)] [] z16 := by
            intro hq20
            replace hf := it_t hf hq20
            refine g_iinc [some _, some _, some _] hE (n_6 + (1 : Int32)) dX8_read_76 rfl rfl (by decide) rfl ?_
            refine g_goto 27 hE dX8_read_79 (by decide) ?_
            exact (ih9 _ _ hf)
          have hF19 : q15 = false → G true iX8_read M (some (.int r0), z0) 82 [some (.ref 0), some (.int s_), some (.int n_6)] [] z16 := by
            intro hq20
            replace hf := it_f hf (by rw [hq20]; decide)
            obtain ⟨rfl, rfl⟩ := so2 hf
            exact hJ12
          replace hf := hx17
          clear hx17
          refine g_iconst hE (2) dX8_read_27 (by decide) ?_
          refine g_iload_n hE dX8_read_28 rfl ?_
          refine g_imul hE dX8_read_29 ?_
          refine g_iconst hE (1) dX8_read_30 (by decide) ?_
          refine g_iadd hE dX8_read_31 ?_
          refine g_aload_n hE dX8_read_32 rfl ?_
          refine gtX8_33 hE kM_0 wf_RX8_80 dX8_read_33 ?_
          refine g_iload_n hE dX8_read_36 rfl ?_
          obtain ⟨h21, hf⟩ := ck_of hf
          refine g_iald hE kM_24 h21 dX8_read_37 ?_
          refine g_icmp_ge 82 hE dX8_read_38 (by decide) (fun h22 => ?_) (fun h22 => ?_)
          · replace hf := it_f hf (cv_ngt h22)
            obtain ⟨rfl, rfl⟩ := so2 hf
            exact hF19 rfl
          · replace hf := it_t hf (cv_gt h22)
            refine g_aload_n hE dX8_read_41 rfl ?_
            refine g_aload_n hE dX8_read_42 rfl ?_
            refine gtX8_34 hE kM_0 wf_RX8_83 dX8_read_43 ?_
            refine g_bipush hE (48) dX8_read_46 (by decide) ?_
            refine g_iload_n hE dX8_read_48 rfl ?_
            refine g_imul hE dX8_read_49 ?_
            refine g_iconst hE (2) dX8_read_50 (by decide) ?_
            refine g_iload_n hE dX8_read_51 rfl ?_
            refine g_imul hE dX8_read_52 ?_
            refine g_iadd hE dX8_read_53 ?_
            obtain ⟨h23, hf⟩ := ck_of hf
            refine g_iald hE kM_25 h23 dX8_read_54 ?_
            refine g_aload_n hE dX8_read_55 rfl ?_
            refine gtX8_34 hE kM_0 wf_RX8_83 dX8_read_56 ?_
            refine g_bipush hE (48) dX8_read_59 (by decide) ?_
            refine g_iload_n hE dX8_read_61 rfl ?_
            refine g_imul hE dX8_read_62 ?_
            refine g_iconst hE (2) dX8_read_63 (by decide) ?_
            refine g_iload_n hE dX8_read_64 rfl ?_
            refine g_imul hE dX8_read_65 ?_
            refine g_iadd hE dX8_read_66 ?_
            refine g_iconst hE (1) dX8_read_67 (by decide) ?_
            refine g_iadd hE dX8_read_68 ?_
            obtain ⟨h24, hf⟩ := ck_of hf
            refine g_iald hE kM_25 h24 dX8_read_69 ?_
            obtain ⟨r27, z26, hc25, hf⟩ := b2_of hf
            refine g_callV2r hE mv_X8_claim kM_0 rfl wm_RX8_157 (by decide) (Nat.le_of_ble_eq_true rfl) dX8_read_70 (c_X8_claim hc25) ?_
            refine g_if_le 82 hE dX8_read_73 (by decide) (fun h28 => ?_) (fun h28 => ?_)
            · replace hf := it_f hf (cv_ngt h28)
              obtain ⟨rfl, rfl⟩ := so2 hf
              exact hF19 rfl
            · replace hf := it_t hf (cv_gt h28)
              obtain ⟨rfl, rfl⟩ := so2 hf
              exact hT18 rfl
      exact hl8 _ _ _ hx11
    · replace hf := it_f hf (fun q => q h5)
      refine g_aload_n hE dX8_read_19 rfl ?_
      refine g_iconst hE (1) dX8_read_20 (by decide) ?_
      obtain ⟨r31, z30, hc29, hf⟩ := b2_of hf
      refine g_callV1r hE mv_X8_meets kM_0 rfl wm_RX8_154 (by decide) (Nat.le_of_ble_eq_true rfl) dX8_read_21 (c_X8_meets hc29) ?_
      obtain ⟨rfl, rfl⟩ := so2 hf
      exact g_iret hE rfl dX8_read_24
  · replace hf := it_f hf (fun q => q h3)
    refine g_bipush hE (-2) dX8_read_7 (by decide) ?_
    obtain ⟨rfl, rfl⟩ := so2 hf
    exact g_iret hE rfl dX8_read_9
set_option maxHeartbeats 4000000 in
set_option maxRecDepth 100000 in
theorem c_X8_fits {l : Launch} {w : WC} {claimant_ : Int32} {virtue_ : Int32} {z : Sg} {r0 : Int32} (hf : f_X8_fits claimant_ virtue_ z = some r0) : CT true l iX8_fits w [.ref 0, .int claimant_, .int virtue_] z (some (.int r0)) z := by
  refine ct_of 0 (lv := [some (.ref 0), some (.int claimant_), some (.int virtue_)]) (by decide +kernel) rfl (Nat.le_of_ble_eq_true rfl) rfl (fun M hl hw hE => ?_)
  subst hl
  subst hw
  unfold f_X8_fits at hf
  obtain ⟨x1, hx2, hf⟩ := b1_of hf
  have hJ3 : G true iX8_fits M (some (.int r0), z) 28 [some (.ref 0), some (.int claimant_), some (.int virtue_)] [.int x1] z := by
    obtain ⟨h4, hf⟩ := ck_of hf
    obtain rfl := so1 hf
    exact g_zret hE rfl (bz_nar h4) dX8_fits_28
  replace hf := hx2
  clear hx2
  refine g_aload_n hE dX8_fits_0 rfl ?_
  refine gtX8_3 hE kM_0 wf_RX8_16 dX8_fits_1 ?_
  refine g_iload_n hE dX8_fits_4 rfl ?_
  obtain ⟨h5, hf⟩ := ck_of hf
  refine g_iald hE kM_3 h5 dX8_fits_5 ?_
  refine g_aload_n hE dX8_fits_6 rfl ?_
  refine gtX8_7 hE kM_0 wf_RX8_25 dX8_fits_7 ?_
  refine g_iload_n hE dX8_fits_10 rfl ?_
  obtain ⟨h6, hf⟩ := ck_of hf
  refine g_iald hE kM_6 h6 dX8_fits_11 ?_
  refine g_ixor hE dX8_fits_12 ?_
  refine g_aload_n hE dX8_fits_13 rfl ?_
  refine gtX8_6 hE kM_0 wf_RX8_22 dX8_fits_14 ?_
  refine g_iload_n hE dX8_fits_17 rfl ?_
  obtain ⟨h7, hf⟩ := ck_of hf
  refine g_iald hE kM_5 h7 dX8_fits_18 ?_
  refine g_iand hE dX8_fits_19 ?_
  refine g_if_ne 27 hE dX8_fits_20 (by decide) (fun h8 => ?_) (fun h8 => ?_)
  · replace hf := it_f hf h8
    refine g_iconst hE (0) dX8_fits_27 (by decide) ?_
    obtain rfl := so1 hf
    exact hJ3
  · replace hf := it_t hf h8
    refine g_iconst hE (1) dX8_fits_23 (by decide) ?_
    refine g_goto 28 hE dX8_fits_24 (by decide) ?_
    obtain rfl := so1 hf
    exact hJ3
set_option maxHeartbeats 4000000 in
set_option maxRecDepth 100000 in
theorem c_X8_givenTo {l : Launch} {w : WC} {claimant_ : Int32} {z : Sg} {r0 : Int32} (hf : f_X8_givenTo claimant_ z = some r0) : CT true l iX8_givenTo w [.ref 0, .int claimant_] z (some (.int r0)) z := by
  refine ct_of 3 (lv := [some (.ref 0), some (.int claimant_), none, none, none]) (by decide +kernel) rfl (Nat.le_of_ble_eq_true rfl) rfl (fun M hl hw hE => ?_)
  subst hl
  subst hw
  unfold f_X8_givenTo at hf
  refine g_iconst hE (-1) dX8_givenTo_0 (by decide) ?_
  refine g_istore_n [some _, some _, some _, none, none] hE dX8_givenTo_1 (by decide) rfl ?_
  refine g_iconst hE (0) dX8_givenTo_2 (by decide) ?_
  refine g_istore_n [some _, some _, some _, some _, none] hE dX8_givenTo_3 (by decide) rfl ?_
  obtain ⟨best_8, hx6, hf⟩ := b1_of hf
  have hJ7 : G true iX8_givenTo M (some (.int r0), z) 85 [some (.ref 0), some (.int claimant_), some (.int best_8), none, none] [] z := by
    obtain ⟨x9, hx10, hf⟩ := b1_of hf
    have hJ11 : G true iX8_givenTo M (some (.int r0), z) 106 [some (.ref 0), some (.int claimant_), some (.int best_8), none, none] [.int x9] z := by
      obtain rfl := so1 hf
      exact g_iret hE rfl dX8_givenTo_106
    replace hf := hx10
    clear hx10
    refine g_aload_n hE dX8_givenTo_85 rfl ?_
    refine gtX8_6 hE kM_0 wf_RX8_22 dX8_givenTo_86 ?_
    refine g_iload_n hE dX8_givenTo_89 rfl ?_
    obtain ⟨h12, hf⟩ := ck_of hf
    refine g_iald hE kM_5 h12 dX8_givenTo_90 ?_
    obtain ⟨r14, hc13, hf⟩ := b1_of hf
    refine g_callS1r hE ms_X8_ones wm_RX8_164 (by decide) (Nat.le_of_ble_eq_true rfl) dX8_givenTo_91 (c_X8_ones hc13) ?_
    refine g_aload_n hE dX8_givenTo_94 rfl ?_
    refine gtX8_9 hE kM_0 wf_RX8_89 dX8_givenTo_95 ?_
    refine g_icmp_lt 105 hE dX8_givenTo_98 (by decide) (fun h15 => ?_) (fun h15 => ?_)
    · replace hf := it_f hf (cv_nge h15)
      refine g_iconst hE (-1) dX8_givenTo_105 (by decide) ?_
      obtain rfl := so1 hf
      exact hJ11
    · replace hf := it_t hf (cv_ge h15)
      refine g_iload_n hE dX8_givenTo_101 rfl ?_
      refine g_goto 106 hE dX8_givenTo_102 (by decide) ?_
      obtain rfl := so1 hf
      exact hJ11
  clear hf
  have hl3 : ∀ (n5 : Nat) (best_1 : Int32) (v_2 : Int32), f_X8_givenTo_lp1 claimant_ z n5 best_1 v_2 = some best_8 → G true iX8_givenTo M (some (.int r0), z) 4 [some (.ref 0), some (.int claimant_), some (.int best_1), some (.int v_2), none] [] z := by
    intro n5
    induction n5 with
    | zero => intro best_1 v_2 hf; cases hf
    | succ n5 ih4 =>
      intro best_1 v_2 hf
      rw [f_X8_givenTo_lp1] at hf
      refine g_iload_n hE dX8_givenTo_4 rfl ?_
      refine g_aload_n hE dX8_givenTo_5 rfl ?_
      refine gtX8_2 hE kM_0 wf_RX8_106 dX8_givenTo_6 ?_
      refine g_icmp_ge 85 hE dX8_givenTo_9 (by decide) (fun h16 => ?_) (fun h16 => ?_)
      · replace hf := it_f hf (cv_ngt h16)
        obtain rfl := so1 hf
        exact g_wk [true, true, true, false, false] rfl hJ7
      · replace hf := it_t hf (cv_gt h16)
        obtain ⟨x17, hx18, hf⟩ := b1_of hf
        have hJ19 : G true iX8_givenTo M (some (.int r0), z) 46 [some (.ref 0), some (.int claimant_), some (.int best_1), some (.int v_2), none] [.int x17] z := by
          refine g_istore [some _, some _, some _, some _, some _] hE dX8_givenTo_46 (by decide) rfl ?_
          obtain ⟨x20, hx21, hf⟩ := b1_of hf
          have hJ22 : G true iX8_givenTo M (some (.int r0), z) 78 [some (.ref 0), some (.int claimant_), some (.int best_1), some (.int v_2), some (.int x17)] [.int x20] z := by
            refine g_istore_n [some _, some _, some _, some _, some _] hE dX8_givenTo_78 (by decide) rfl ?_
            refine g_wk [true, true, true, true, false] rfl ?_
            refine g_iinc [some _, some _, some _, some _, none] hE (v_2 + (1 : Int32)) dX8_givenTo_79 rfl rfl (by decide) rfl ?_
            refine g_goto 4 hE dX8_givenTo_82 (by decide) ?_
            exact (ih4 _ _ hf)
          replace hf := hx21
          clear hx21
          obtain ⟨q23, hx24, hf⟩ := b1_of hf
          have hT25 : q23 = true → G true iX8_givenTo M (some (.int r0), z) 73 [some (.ref 0), some (.int claimant_), some (.int best_1), some (.int v_2), some (.int x17)] [] z := by
            intro hq27
            replace hf := it_t hf hq27
            refine g_iload_n hE dX8_givenTo_73 rfl ?_
            refine g_goto 78 hE dX8_givenTo_74 (by decide) ?_
            obtain rfl := so1 hf
            exact hJ22
          have hF26 : q23 = false → G true iX8_givenTo M (some (.int r0), z) 77 [some (.ref 0), some (.int claimant_), some (.int best_1), some (.int v_2), some (.int x17)] [] z := by
            intro hq27
            replace hf := it_f hf (by rw [hq27]; decide)
            refine g_iload_n hE dX8_givenTo_77 rfl ?_
            obtain rfl := so1 hf
            exact hJ22
          replace hf := hx24
          clear hx24
          refine g_iload hE dX8_givenTo_48 rfl ?_
          refine g_if_eq 77 hE dX8_givenTo_50 (by decide) (fun h28 => ?_) (fun h28 => ?_)
          · replace hf := it_f hf (fun q => q h28)
            obtain rfl := so1 hf
            exact hF26 rfl
          · replace hf := it_t hf h28
            refine g_iload_n hE dX8_givenTo_53 rfl ?_
            refine g_iconst hE (-1) dX8_givenTo_54 (by decide) ?_
            refine g_icmp_eq 73 hE dX8_givenTo_55 (by decide) (fun h29 => ?_) (fun h29 => ?_)
            · replace hf := it_t hf h29
              obtain rfl := so1 hf
              exact hT25 rfl
            · replace hf := it_f hf h29
              refine g_aload_n hE dX8_givenTo_58 rfl ?_
              refine gtX8_4 hE kM_0 wf_RX8_19 dX8_givenTo_59 ?_
              refine g_iload_n hE dX8_givenTo_62 rfl ?_
              obtain ⟨h30, hf⟩ := ck_of hf
              refine g_iald hE kM_4 h30 dX8_givenTo_63 ?_
              refine g_aload_n hE dX8_givenTo_64 rfl ?_
              refine gtX8_4 hE kM_0 wf_RX8_19 dX8_givenTo_65 ?_
              refine g_iload_n hE dX8_givenTo_68 rfl ?_
              obtain ⟨h31, hf⟩ := ck_of hf
              refine g_iald hE kM_4 h31 dX8_givenTo_69 ?_
              refine g_icmp_ge 77 hE dX8_givenTo_70 (by decide) (fun h32 => ?_) (fun h32 => ?_)
              · replace hf := it_f hf (cv_ngt h32)
                obtain rfl := so1 hf
                exact hF26 rfl
              · replace hf := it_t hf (cv_gt h32)
                obtain rfl := so1 hf
                exact hT25 rfl
        replace hf := hx18
        clear hx18
        refine g_aload_n hE dX8_givenTo_12 rfl ?_
        refine gtX8_18 hE kM_0 wf_RX8_43 dX8_givenTo_13 ?_
        refine g_iload_n hE dX8_givenTo_16 rfl ?_
        obtain ⟨h33, hf⟩ := ck_of hf
        refine g_iald hE kM_12 h33 dX8_givenTo_17 ?_
        refine g_iconst hE (-1) dX8_givenTo_18 (by decide) ?_
        refine g_icmp_eq 45 hE dX8_givenTo_19 (by decide) (fun h34 => ?_) (fun h34 => ?_)
        · replace hf := it_f hf (fun q => q h34)
          refine g_iconst hE (0) dX8_givenTo_45 (by decide) ?_
          obtain rfl := so1 hf
          exact hJ19
        · replace hf := it_t hf h34
          refine g_aload_n hE dX8_givenTo_22 rfl ?_
          refine gtX8_19 hE kM_0 wf_RX8_46 dX8_givenTo_23 ?_
          refine g_iload_n hE dX8_givenTo_26 rfl ?_
          obtain ⟨h35, hf⟩ := ck_of hf
          refine g_iald hE kM_13 h35 dX8_givenTo_27 ?_
          refine g_iconst hE (-1) dX8_givenTo_28 (by decide) ?_
          refine g_icmp_ne 45 hE dX8_givenTo_29 (by decide) (fun h36 => ?_) (fun h36 => ?_)
          · replace hf := it_f hf h36
            refine g_iconst hE (0) dX8_givenTo_45 (by decide) ?_
            obtain rfl := so1 hf
            exact hJ19
          · replace hf := it_t hf h36
            refine g_aload_n hE dX8_givenTo_32 rfl ?_
            refine g_iload_n hE dX8_givenTo_33 rfl ?_
            refine g_iload_n hE dX8_givenTo_34 rfl ?_
            obtain ⟨r38, hc37, hf⟩ := b1_of hf
            refine g_callV2r hE mv_X8_fits kM_0 rfl wm_RX8_160 (by decide) (Nat.le_of_ble_eq_true rfl) dX8_givenTo_35 (c_X8_fits hc37) ?_
            refine g_if_eq 45 hE dX8_givenTo_38 (by decide) (fun h39 => ?_) (fun h39 => ?_)
            · replace hf := it_f hf (fun q => q h39)
              refine g_iconst hE (0) dX8_givenTo_45 (by decide) ?_
              obtain rfl := so1 hf
              exact hJ19
            · replace hf := it_t hf h39
              refine g_iconst hE (1) dX8_givenTo_41 (by decide) ?_
              refine g_goto 46 hE dX8_givenTo_42 (by decide) ?_
              obtain rfl := so1 hf
              exact hJ19
  exact hl3 _ _ _ hx6
set_option maxHeartbeats 4000000 in
set_option maxRecDepth 100000 in
theorem c_X8_fitsGone {l : Launch} {w : WC} {claimant_ : Int32} {z : Sg} {r0 : Int32} (hf : f_X8_fitsGone claimant_ z = some r0) : CT true l iX8_fitsGone w [.ref 0, .int claimant_] z (some (.int r0)) z := by
  refine ct_of 2 (lv := [some (.ref 0), some (.int claimant_), none, none]) (by decide +kernel) rfl (Nat.le_of_ble_eq_true rfl) rfl (fun M hl hw hE => ?_)
  subst hl
  subst hw
  unfold f_X8_fitsGone at hf
  refine g_iconst hE (0) dX8_fitsGone_0 (by decide) ?_
  refine g_istore_n [some _, some _, some _, none] hE dX8_fitsGone_1 (by decide) rfl ?_
  refine g_iconst hE (0) dX8_fitsGone_2 (by decide) ?_
  refine g_istore_n [some _, some _, some _, some _] hE dX8_fitsGone_3 (by decide) rfl ?_
  obtain ⟨is_8, hx6, hf⟩ := b1_of hf
  have hJ7 : G true iX8_fitsGone M (some (.int r0), z) 47 [some (.ref 0), some (.int claimant_), some (.int is_8), none] [] z := by
    refine g_iload_n hE dX8_fitsGone_47 rfl ?_
    obtain ⟨h9, hf⟩ := ck_of hf
    obtain rfl := so1 hf
    exact g_zret hE rfl (bz_nar h9) dX8_fitsGone_48
  clear hf
  have hl3 : ∀ (n5 : Nat) (is_1 : Int32) (v_2 : Int32), f_X8_fitsGone_lp1 claimant_ z n5 is_1 v_2 = some is_8 → G true iX8_fitsGone M (some (.int r0), z) 4 [some (.ref 0), some (.int claimant_), some (.int is_1), some (.int v_2)] [] z := by
    intro n5
    induction n5 with
    | zero => intro is_1 v_2 hf; cases hf
    | succ n5 ih4 =>
      intro is_1 v_2 hf
      rw [f_X8_fitsGone_lp1] at hf
      refine g_iload_n hE dX8_fitsGone_4 rfl ?_
      refine g_aload_n hE dX8_fitsGone_5 rfl ?_
      refine gtX8_2 hE kM_0 wf_RX8_106 dX8_fitsGone_6 ?_
      refine g_icmp_ge 47 hE dX8_fitsGone_9 (by decide) (fun h10 => ?_) (fun h10 => ?_)
      · replace hf := it_f hf (cv_ngt h10)
        obtain rfl := so1 hf
        exact g_wk [true, true, true, false] rfl hJ7
      · replace hf := it_t hf (cv_gt h10)
        obtain ⟨x11, hx12, hf⟩ := b1_of hf
        have hJ13 : G true iX8_fitsGone M (some (.int r0), z) 40 [some (.ref 0), some (.int claimant_), some (.int is_1), some (.int v_2)] [.int x11] z := by
          refine g_istore_n [some _, some _, some _, some _] hE dX8_fitsGone_40 (by decide) rfl ?_
          refine g_iinc [some _, some _, some _, some _] hE (v_2 + (1 : Int32)) dX8_fitsGone_41 rfl rfl (by decide) rfl ?_
          refine g_goto 4 hE dX8_fitsGone_44 (by decide) ?_
          exact (ih4 _ _ hf)
        replace hf := hx12
        clear hx12
        refine g_iload_n hE dX8_fitsGone_12 rfl ?_
        refine g_if_ne 35 hE dX8_fitsGone_13 (by decide) (fun h14 => ?_) (fun h14 => ?_)
        · replace hf := it_t hf h14
          refine g_iconst hE (1) dX8_fitsGone_35 (by decide) ?_
          refine g_goto 40 hE dX8_fitsGone_36 (by decide) ?_
          obtain rfl := so1 hf
          exact hJ13
        · replace hf := it_f hf (fun q => q h14)
          refine g_aload_n hE dX8_fitsGone_16 rfl ?_
          refine gtX8_19 hE kM_0 wf_RX8_46 dX8_fitsGone_17 ?_
          refine g_iload_n hE dX8_fitsGone_20 rfl ?_
          obtain ⟨h15, hf⟩ := ck_of hf
          refine g_iald hE kM_13 h15 dX8_fitsGone_21 ?_
          refine g_iconst hE (-1) dX8_fitsGone_22 (by decide) ?_
          refine g_icmp_eq 39 hE dX8_fitsGone_23 (by decide) (fun h16 => ?_) (fun h16 => ?_)
          · replace hf := it_f hf (fun q => q h16)
            refine g_iconst hE (0) dX8_fitsGone_39 (by decide) ?_
            obtain rfl := so1 hf
            exact hJ13
          · replace hf := it_t hf h16
            refine g_aload_n hE dX8_fitsGone_26 rfl ?_
            refine g_iload_n hE dX8_fitsGone_27 rfl ?_
            refine g_iload_n hE dX8_fitsGone_28 rfl ?_
            obtain ⟨r18, hc17, hf⟩ := b1_of hf
            refine g_callV2r hE mv_X8_fits kM_0 rfl wm_RX8_160 (by decide) (Nat.le_of_ble_eq_true rfl) dX8_fitsGone_29 (c_X8_fits hc17) ?_
            refine g_if_eq 39 hE dX8_fitsGone_32 (by decide) (fun h19 => ?_) (fun h19 => ?_)
            · replace hf := it_f hf (fun q => q h19)
              refine g_iconst hE (0) dX8_fitsGone_39 (by decide) ?_
              obtain rfl := so1 hf
              exact hJ13
            · replace hf := it_t hf h19
              refine g_iconst hE (1) dX8_fitsGone_35 (by decide) ?_
              refine g_goto 40 hE dX8_fitsGone_36 (by decide) ?_
              obtain rfl := so1 hf
              exact hJ13
  exact hl3 _ _ _ hx6
set_option maxHeartbeats 4000000 in
set_option maxRecDepth 100000 in
theorem c_X8_comes {l : Launch} {w : WC} {k_ : Int32} {week_ : Int32} {z : Sg} {z0 : Sg} (hf : f_X8_comes k_ week_ z = some z0) : CT true l iX8_comes w [.ref 0, .int k_, .int week_] z none z0 := by
  refine ct_of 2 (lv := [some (.ref 0), some (.int k_), some (.int week_), none, none]) (by decide +kernel) rfl (Nat.le_of_ble_eq_true rfl) rfl (fun M hl hw hE => ?_)
  subst hl
  subst hw
  unfold f_X8_comes at hf
  refine g_aload_n hE dX8_comes_0 rfl ?_
  refine gtX8_17 hE kM_0 wf_RX8_40 dX8_comes_1 ?_
  refine g_iload_n hE dX8_comes_4 rfl ?_
  obtain ⟨h1, hf⟩ := ck_of hf
  refine g_iald hE kM_11 h1 dX8_comes_5 ?_
  refine g_istore_n [some _, some _, some _, some _, none] hE dX8_comes_6 (by decide) rfl ?_
  obtain ⟨x2, hx3, hf⟩ := b1_of hf
  have hJ4 : G true iX8_comes M (none, z0) 24 [some (.ref 0), some (.int k_), some (.int week_), some (.int (rI z 11 (ix k_))), none] [.int x2] z := by
    refine g_istore [some _, some _, some _, some _, some _] hE dX8_comes_24 (by decide) rfl ?_
    obtain ⟨z7, hx5, hf⟩ := b1_of hf
    have hJ6 : G true iX8_comes M (none, z0) 100 [some (.ref 0), some (.int k_), some (.int week_), some (.int (rI z 11 (ix k_))), some (.int x2)] [] z7 := by
      obtain rfl := so1 hf
      exact g_ret hE rfl dX8_comes_100
    replace hf := hx5
    clear hx5
    refine g_iload hE dX8_comes_26 rfl ?_
    refine g_iconst hE (-1) dX8_comes_28 (by decide) ?_
    refine g_icmp_eq 71 hE dX8_comes_29 (by decide) (fun h8 => ?_) (fun h8 => ?_)
    · replace hf := it_f hf (fun q => q h8)
      obtain ⟨z11, hx9, hf⟩ := b1_of hf
      have hJ10 : G true iX8_comes M (none, z0) 100 [some (.ref 0), some (.int k_), some (.int week_), some (.int (rI z 11 (ix k_))), some (.int x2)] [] z11 := by
        obtain rfl := so1 hf
        exact hJ6
      replace hf := hx9
      clear hx9
      obtain ⟨q12, hx13, hf⟩ := b1_of hf
      have hT14 : q12 = true → G true iX8_comes M (none, z0) 95 [some (.ref 0), some (.int k_), some (.int week_), some (.int (rI z 11 (ix k_))), some (.int x2)] [] z := by
        intro hq16
        replace hf := it_t hf hq16
        refine g_aload_n hE dX8_comes_95 rfl ?_
        refine g_iload_n hE dX8_comes_96 rfl ?_
        refine ptX8_22 hE kM_0 wf_RX8_173 dX8_comes_97 ?_
        obtain rfl := so1 hf
        exact hJ10
      have hF15 : q12 = false → G true iX8_comes M (none, z0) 100 [some (.ref 0), some (.int k_), some (.int week_), some (.int (rI z 11 (ix k_))), some (.int x2)] [] z := by
        intro hq16
        replace hf := it_f hf (by rw [hq16]; decide)
        obtain rfl := so1 hf
        exact hJ10
      replace hf := hx13
      clear hx13
      refine g_iload_n hE dX8_comes_71 rfl ?_
      refine g_aload_n hE dX8_comes_72 rfl ?_
      refine gtX8_5 hE kM_0 wf_RX8_109 dX8_comes_73 ?_
      refine g_icmp_ge 100 hE dX8_comes_76 (by decide) (fun h17 => ?_) (fun h17 => ?_)
      · replace hf := it_f hf (cv_ngt h17)
        obtain rfl := so1 hf
        exact hF15 rfl
      · replace hf := it_t hf (cv_gt h17)
        refine g_aload_n hE dX8_comes_79 rfl ?_
        refine gtX8_22 hE kM_0 wf_RX8_173 dX8_comes_80 ?_
        refine g_iconst hE (-1) dX8_comes_83 (by decide) ?_
        refine g_icmp_ne 100 hE dX8_comes_84 (by decide) (fun h18 => ?_) (fun h18 => ?_)
        · replace hf := it_f hf h18
          obtain rfl := so1 hf
          exact hF15 rfl
        · replace hf := it_t hf h18
          refine g_aload_n hE dX8_comes_87 rfl ?_
          refine g_iload_n hE dX8_comes_88 rfl ?_
          obtain ⟨r20, hc19, hf⟩ := b1_of hf
          refine g_callV1r hE mv_X8_fitsGone kM_0 rfl wm_RX8_176 (by decide) (Nat.le_of_ble_eq_true rfl) dX8_comes_89 (c_X8_fitsGone hc19) ?_
          refine g_if_eq 100 hE dX8_comes_92 (by decide) (fun h21 => ?_) (fun h21 => ?_)
          · replace hf := it_f hf (fun q => q h21)
            obtain rfl := so1 hf
            exact hF15 rfl
          · replace hf := it_t hf h21
            obtain rfl := so1 hf
            exact hT14 rfl
    · replace hf := it_t hf h8
      refine g_aload_n hE dX8_comes_32 rfl ?_
      refine gtX8_19 hE kM_0 wf_RX8_46 dX8_comes_33 ?_
      refine g_iload hE dX8_comes_36 rfl ?_
      refine g_iload_n hE dX8_comes_38 rfl ?_
      obtain ⟨h22, hf⟩ := ck_of hf
      refine g_iast hE kM_13 h22 dX8_comes_39 ?_
      refine g_aload_n hE dX8_comes_40 rfl ?_
      refine gtX8_20 hE kM_0 wf_RX8_49 dX8_comes_41 ?_
      refine g_iload hE dX8_comes_44 rfl ?_
      refine g_iload_n hE dX8_comes_46 rfl ?_
      obtain ⟨h23, hf⟩ := ck_of hf
      refine g_iast hE kM_14 h23 dX8_comes_47 ?_
      obtain ⟨z26, hx24, hf⟩ := b1_of hf
      have hJ25 : G true iX8_comes M (none, z0) 100 [some (.ref 0), some (.int k_), some (.int week_), some (.int (rI z 11 (ix k_))), some (.int x2)] [] z26 := by
        obtain rfl := so1 hf
        exact hJ6
      replace hf := hx24
      clear hx24
      refine g_iload_n hE dX8_comes_48 rfl ?_
      refine g_bipush hE (12) dX8_comes_49 (by decide) ?_
      refine g_icmp_ge 100 hE dX8_comes_51 (by decide) (fun h27 => ?_) (fun h27 => ?_)
      · replace hf := it_f hf (cv_ngt h27)
        obtain rfl := so1 hf
        exact hJ25
      · replace hf := it_t hf (cv_gt h27)
        refine g_aload_n hE dX8_comes_54 rfl ?_
        refine g_dup hE dX8_comes_55 rfl ?_
        refine gtX8_21 hE kM_0 wf_RX8_170 dX8_comes_56 ?_
        refine g_iconst hE (1) dX8_comes_59 (by decide) ?_
        refine g_iload_n hE dX8_comes_60 rfl ?_
        refine g_ishl hE dX8_comes_61 ?_
        refine g_iconst hE (-1) dX8_comes_62 (by decide) ?_
        refine g_ixor hE dX8_comes_63 ?_
        refine g_iand hE dX8_comes_64 ?_
        refine ptX8_21 hE kM_0 wf_RX8_170 dX8_comes_65 ?_
        refine g_goto 100 hE dX8_comes_68 (by decide) ?_
        obtain rfl := so1 hf
        exact hJ25
  replace hf := hx3
  clear hx3
  refine g_iload_n hE dX8_comes_7 rfl ?_
  refine g_aload_n hE dX8_comes_8 rfl ?_
  refine gtX8_5 hE kM_0 wf_RX8_109 dX8_comes_9 ?_
  refine g_icmp_ge 23 hE dX8_comes_12 (by decide) (fun h28 => ?_) (fun h28 => ?_)
  · replace hf := it_f hf (cv_ngt h28)
    refine g_iconst hE (-1) dX8_comes_23 (by decide) ?_
    obtain rfl := so1 hf
    exact hJ4
  · replace hf := it_t hf (cv_gt h28)
    refine g_aload_n hE dX8_comes_15 rfl ?_
    refine g_iload_n hE dX8_comes_16 rfl ?_
    obtain ⟨r30, hc29, hf⟩ := b1_of hf
    refine g_callV1r hE mv_X8_givenTo kM_0 rfl wm_RX8_167 (by decide) (Nat.le_of_ble_eq_true rfl) dX8_comes_17 (c_X8_givenTo hc29) ?_
    refine g_goto 24 hE dX8_comes_20 (by decide) ?_
    obtain rfl := so1 hf
    exact hJ4
set_option maxHeartbeats 4000000 in
set_option maxRecDepth 100000 in
theorem c_X8_runs {l : Launch} {w : WC} {last_ : Int32} {hands_ : Int32} {many_ : Int32} {z : Sg} {z0 : Sg} (hf : f_X8_runs last_ hands_ many_ z = some z0) : CT true l iX8_runs w [.ref 0, .int last_, .int hands_, .int many_] z none z0 := by
  refine ct_of 4 (lv := [some (.ref 0), some (.int last_), some (.int hands_), some (.int many_), none, none, none, none]) (by decide +kernel) rfl (Nat.le_of_ble_eq_true rfl) rfl (fun M hl hw hE => ?_)
  subst hl
  subst hw
  unfold f_X8_runs at hf
  refine g_iconst hE (0) dX8_runs_0 (by decide) ?_
  refine g_istore [some _, some _, some _, some _, some _, none, none, none] hE dX8_runs_1 (by decide) rfl ?_
  obtain ⟨z8, hx6, hf⟩ := b1_of hf
  have hJ7 : G true iX8_runs M (none, z0) 40 [some (.ref 0), some (.int last_), some (.int hands_), some (.int many_), none, none, none, none] [] z8 := by
    refine g_aload_n hE dX8_runs_40 rfl ?_
    refine g_iconst hE (1) dX8_runs_41 (by decide) ?_
    obtain ⟨x9, hx10, hf⟩ := b1_of hf
    have hJ11 : G true iX8_runs M (none, z0) 54 [some (.ref 0), some (.int last_), some (.int hands_), some (.int many_), none, none, none, none] [.int x9, .int (1 : Int32), .ref 0] z8 := by
      refine g_ishl hE dX8_runs_54 ?_
      refine g_iconst hE (1) dX8_runs_55 (by decide) ?_
      refine g_isub hE dX8_runs_56 ?_
      refine ptX8_21 hE kM_0 wf_RX8_170 dX8_runs_57 ?_
      refine g_aload_n hE dX8_runs_60 rfl ?_
      refine g_iconst hE (-1) dX8_runs_61 (by decide) ?_
      refine ptX8_22 hE kM_0 wf_RX8_173 dX8_runs_62 ?_
      refine g_iconst hE (0) dX8_runs_65 (by decide) ?_
      refine g_istore [some _, some _, some _, some _, some _, none, none, none] hE dX8_runs_66 (by decide) rfl ?_
      obtain ⟨z19, hx17, hf⟩ := b1_of hf
      have hJ18 : G true iX8_runs M (none, z0) 352 [some (.ref 0), some (.int last_), some (.int hands_), some (.int many_), none, none, none, none] [] z19 := by
        obtain rfl := so1 hf
        exact g_ret hE rfl dX8_runs_352
      clear hf
      have hl14 : ∀ (n16 : Nat) (week_12 : Int32) (z13 : Sg), f_X8_runs_lp2 last_ hands_ many_ n16 week_12 z13 = some z19 → G true iX8_runs M (none, z0) 68 [some (.ref 0), some (.int last_), some (.int hands_), some (.int many_), some (.int week_12), none, none, none] [] z13 := by
        intro n16
        induction n16 with
        | zero => intro week_12 z13 hf; cases hf
        | succ n16 ih15 =>
          intro week_12 z13 hf
          rw [f_X8_runs_lp2] at hf
          refine g_iload hE dX8_runs_68 rfl ?_
          refine g_iload_n hE dX8_runs_70 rfl ?_
          refine g_icmp_gt 352 hE dX8_runs_71 (by decide) (fun h20 => ?_) (fun h20 => ?_)
          · replace hf := it_f hf (cv_nge h20)
            obtain rfl := so1 hf
            exact g_wk [true, true, true, true, false, false, false, false] rfl hJ18
          · replace hf := it_t hf (cv_ge h20)
            refine g_iconst hE (0) dX8_runs_74 (by decide) ?_
            refine g_istore [some _, some _, some _, some _, some _, some _, none, none] hE dX8_runs_75 (by decide) rfl ?_
            obtain ⟨z28, hx26, hf⟩ := b1_of hf
            have hJ27 : G true iX8_runs M (none, z0) 149 [some (.ref 0), some (.int last_), some (.int hands_), some (.int many_), some (.int week_12), none, none, none] [] z28 := by
              refine g_iconst hE (0) dX8_runs_149 (by decide) ?_
              refine g_istore [some _, some _, some _, some _, some _, some _, none, none] hE dX8_runs_150 (by decide) rfl ?_
              obtain ⟨z36, hx34, hf⟩ := b1_of hf
              have hJ35 : G true iX8_runs M (none, z0) 256 [some (.ref 0), some (.int last_), some (.int hands_), some (.int many_), some (.int week_12), none, none, none] [] z36 := by
                refine g_iconst hE (0) dX8_runs_256 (by decide) ?_
                refine g_istore [some _, some _, some _, some _, some _, some _, none, none] hE dX8_runs_257 (by decide) rfl ?_
                obtain ⟨z44, hx42, hf⟩ := b1_of hf
                have hJ43 : G true iX8_runs M (none, z0) 346 [some (.ref 0), some (.int last_), some (.int hands_), some (.int many_), some (.int week_12), none, none, none] [] z44 := by
                  refine g_iinc [some _, some _, some _, some _, some _, none, none, none] hE (week_12 + (1 : Int32)) dX8_runs_346 rfl rfl (by decide) rfl ?_
                  refine g_goto 68 hE dX8_runs_349 (by decide) ?_
                  exact (ih15 _ _ hf)
                clear hf
                have hl39 : ∀ (n41 : Nat) (v_37 : Int32) (z38 : Sg), f_X8_runs_lp6 week_12 n41 v_37 z38 = some z44 → G true iX8_runs M (none, z0) 259 [some (.ref 0), some (.int last_), some (.int hands_), some (.int many_), some (.int week_12), some (.int v_37), none, none] [] z38 := by
                  intro n41
                  induction n41 with
                  | zero => intro v_37 z38 hf; cases hf
                  | succ n41 ih40 =>
                    intro v_37 z38 hf
                    rw [f_X8_runs_lp6] at hf
                    refine g_iload hE dX8_runs_259 rfl ?_
                    refine g_aload_n hE dX8_runs_261 rfl ?_
                    refine gtX8_2 hE kM_0 wf_RX8_106 dX8_runs_262 ?_
                    refine g_icmp_ge 346 hE dX8_runs_265 (by decide) (fun h45 => ?_) (fun h45 => ?_)
                    · replace hf := it_f hf (cv_ngt h45)
                      obtain rfl := so1 hf
                      exact g_wk [true, true, true, true, true, false, false, false] rfl hJ43
                    · replace hf := it_t hf (cv_gt h45)
                      obtain ⟨x46, hx47, hf⟩ := b1_of hf
                      have hJ48 : G true iX8_runs M (none, z0) 314 [some (.ref 0), some (.int last_), some (.int hands_), some (.int many_), some (.int week_12), some (.int v_37), none, none] [.int x46] z38 := by
                        refine g_istore [some _, some _, some _, some _, some _, some _, some _, none] hE dX8_runs_314 (by decide) rfl ?_
                        refine g_aload_n hE dX8_runs_316 rfl ?_
                        refine gtX8_19 hE kM_0 wf_RX8_46 dX8_runs_317 ?_
                        refine g_iload hE dX8_runs_320 rfl ?_
                        obtain ⟨x49, hx50, hf⟩ := b1_of hf
                        have hJ51 : G true iX8_runs M (none, z0) 339 [some (.ref 0), some (.int last_), some (.int hands_), some (.int many_), some (.int week_12), some (.int v_37), some (.int x46), none] [.int x49, .int v_37, .ref 13] z38 := by
                          obtain ⟨h52, hf⟩ := ck_of hf
                          refine g_iast hE kM_13 h52 dX8_runs_339 ?_
                          refine g_wk [true, true, true, true, true, true, false, false] rfl ?_
                          refine g_iinc [some _, some _, some _, some _, some _, some _, none, none] hE (v_37 + (1 : Int32)) dX8_runs_340 rfl rfl (by decide) rfl ?_
                          refine g_goto 259 hE dX8_runs_343 (by decide) ?_
                          exact (ih40 _ _ hf)
                        replace hf := hx50
                        clear hx50
                        refine g_iload hE dX8_runs_322 rfl ?_
                        refine g_if_eq 332 hE dX8_runs_324 (by decide) (fun h53 => ?_) (fun h53 => ?_)
                        · replace hf := it_f hf (fun q => q h53)
                          refine g_aload_n hE dX8_runs_332 rfl ?_
                          refine gtX8_19 hE kM_0 wf_RX8_46 dX8_runs_333 ?_
                          refine g_iload hE dX8_runs_336 rfl ?_
                          obtain ⟨h54, hf⟩ := ck_of hf
                          refine g_iald hE kM_13 h54 dX8_runs_338 ?_
                          obtain rfl := so1 hf
                          exact hJ51
                        · replace hf := it_t hf h53
                          refine g_iload hE dX8_runs_327 rfl ?_
                          refine g_goto 339 hE dX8_runs_329 (by decide) ?_
                          obtain rfl := so1 hf
                          exact hJ51
                      replace hf := hx47
                      clear hx47
                      refine g_aload_n hE dX8_runs_268 rfl ?_
                      refine gtX8_18 hE kM_0 wf_RX8_43 dX8_runs_269 ?_
                      refine g_iload hE dX8_runs_272 rfl ?_
                      obtain ⟨h55, hf⟩ := ck_of hf
                      refine g_iald hE kM_12 h55 dX8_runs_274 ?_
                      refine g_iconst hE (-1) dX8_runs_275 (by decide) ?_
                      refine g_icmp_eq 313 hE dX8_runs_276 (by decide) (fun h56 => ?_) (fun h56 => ?_)
                      · replace hf := it_f hf (fun q => q h56)
                        refine g_iconst hE (0) dX8_runs_313 (by decide) ?_
                        obtain rfl := so1 hf
                        exact hJ48
                      · replace hf := it_t hf h56
                        refine g_aload_n hE dX8_runs_279 rfl ?_
                        refine gtX8_19 hE kM_0 wf_RX8_46 dX8_runs_280 ?_
                        refine g_iload hE dX8_runs_283 rfl ?_
                        obtain ⟨h57, hf⟩ := ck_of hf
                        refine g_iald hE kM_13 h57 dX8_runs_285 ?_
                        refine g_iconst hE (-1) dX8_runs_286 (by decide) ?_
                        refine g_icmp_ne 313 hE dX8_runs_287 (by decide) (fun h58 => ?_) (fun h58 => ?_)
                        · replace hf := it_f hf h58
                          refine g_iconst hE (0) dX8_runs_313 (by decide) ?_
                          obtain rfl := so1 hf
                          exact hJ48
                        · replace hf := it_t hf h58
                          refine g_iload hE dX8_runs_290 rfl ?_
                          refine g_aload_n hE dX8_runs_292 rfl ?_
                          refine gtX8_18 hE kM_0 wf_RX8_43 dX8_runs_293 ?_
                          refine g_iload hE dX8_runs_296 rfl ?_
                          obtain ⟨h59, hf⟩ := ck_of hf
                          refine g_iald hE kM_12 h59 dX8_runs_298 ?_
                          refine g_isub hE dX8_runs_299 ?_
                          refine g_iconst hE (1) dX8_runs_300 (by decide) ?_
                          refine g_iadd hE dX8_runs_301 ?_
                          refine g_aload_n hE dX8_runs_302 rfl ?_
                          refine gtX8_11 hE kM_0 wf_RX8_93 dX8_runs_303 ?_
                          refine g_icmp_ne 313 hE dX8_runs_306 (by decide) (fun h60 => ?_) (fun h60 => ?_)
                          · replace hf := it_f hf h60
                            refine g_iconst hE (0) dX8_runs_313 (by decide) ?_
                            obtain rfl := so1 hf
                            exact hJ48
                          · replace hf := it_t hf h60
                            refine g_iconst hE (1) dX8_runs_309 (by decide) ?_
                            refine g_goto 314 hE dX8_runs_310 (by decide) ?_
                            obtain rfl := so1 hf
                            exact hJ48
                exact hl39 _ _ _ hx42
              clear hf
              have hl31 : ∀ (n33 : Nat) (rich_29 : Int32) (z30 : Sg), f_X8_runs_lp4 many_ week_12 n33 rich_29 z30 = some z36 → G true iX8_runs M (none, z0) 152 [some (.ref 0), some (.int last_), some (.int hands_), some (.int many_), some (.int week_12), some (.int rich_29), none, none] [] z30 := by
                intro n33
                induction n33 with
                | zero => intro rich_29 z30 hf; cases hf
                | succ n33 ih32 =>
                  intro rich_29 z30 hf
                  rw [f_X8_runs_lp4] at hf
                  refine g_iload hE dX8_runs_152 rfl ?_
                  refine g_bipush hE (10) dX8_runs_154 (by decide) ?_
                  refine g_icmp_ge 256 hE dX8_runs_156 (by decide) (fun h61 => ?_) (fun h61 => ?_)
                  · replace hf := it_f hf (cv_ngt h61)
                    obtain rfl := so1 hf
                    exact g_wk [true, true, true, true, true, false, false, false] rfl hJ35
                  · replace hf := it_t hf (cv_gt h61)
                    refine g_iconst hE (0) dX8_runs_159 (by decide) ?_
                    refine g_istore [some _, some _, some _, some _, some _, some _, some _, none] hE dX8_runs_160 (by decide) rfl ?_
                    obtain ⟨z69, hx67, hf⟩ := b1_of hf
                    have hJ68 : G true iX8_runs M (none, z0) 250 [some (.ref 0), some (.int last_), some (.int hands_), some (.int many_), some (.int week_12), some (.int rich_29), none, none] [] z69 := by
                      refine g_iinc [some _, some _, some _, some _, some _, some _, none, none] hE (rich_29 + (1 : Int32)) dX8_runs_250 rfl rfl (by decide) rfl ?_
                      refine g_goto 152 hE dX8_runs_253 (by decide) ?_
                      exact (ih32 _ _ hf)
                    clear hf
                    have hl64 : ∀ (n66 : Nat) (k_62 : Int32) (z63 : Sg), f_X8_runs_lp5 many_ week_12 rich_29 n66 k_62 z63 = some z69 → G true iX8_runs M (none, z0) 162 [some (.ref 0), some (.int last_), some (.int hands_), some (.int many_), some (.int week_12), some (.int rich_29), some (.int k_62), none] [] z63 := by
                      intro n66
                      induction n66 with
                      | zero => intro k_62 z63 hf; cases hf
                      | succ n66 ih65 =>
                        intro k_62 z63 hf
                        rw [f_X8_runs_lp5] at hf
                        refine g_iload hE dX8_runs_162 rfl ?_
                        refine g_iload_n hE dX8_runs_164 rfl ?_
                        refine g_icmp_ge 250 hE dX8_runs_165 (by decide) (fun h70 => ?_) (fun h70 => ?_)
                        · replace hf := it_f hf (cv_ngt h70)
                          obtain rfl := so1 hf
                          exact g_wk [true, true, true, true, true, true, false, false] rfl hJ68
                        · replace hf := it_t hf (cv_gt h70)
                          obtain ⟨x71, hx72, hf⟩ := b1_of hf
                          have hJ73 : G true iX8_runs M (none, z0) 217 [some (.ref 0), some (.int last_), some (.int hands_), some (.int many_), some (.int week_12), some (.int rich_29), some (.int k_62), none] [.int x71] z63 := by
                            refine g_istore [some _, some _, some _, some _, some _, some _, some _, some _] hE dX8_runs_217 (by decide) rfl ?_
                            obtain ⟨z76, hx74, hf⟩ := b1_of hf
                            have hJ75 : G true iX8_runs M (none, z0) 244 [some (.ref 0), some (.int last_), some (.int hands_), some (.int many_), some (.int week_12), some (.int rich_29), some (.int k_62), some (.int x71)] [] z76 := by
                              refine g_wk [true, true, true, true, true, true, true, false] rfl ?_
                              refine g_iinc [some _, some _, some _, some _, some _, some _, some _, none] hE (k_62 + (1 : Int32)) dX8_runs_244 rfl rfl (by decide) rfl ?_
                              refine g_goto 162 hE dX8_runs_247 (by decide) ?_
                              exact (ih65 _ _ hf)
                            replace hf := hx74
                            clear hx74
                            obtain ⟨q77, hx78, hf⟩ := b1_of hf
                            have hT79 : q77 = true → G true iX8_runs M (none, z0) 236 [some (.ref 0), some (.int last_), some (.int hands_), some (.int many_), some (.int week_12), some (.int rich_29), some (.int k_62), some (.int x71)] [] z63 := by
                              intro hq81
                              replace hf := it_t hf hq81
                              refine g_aload_n hE dX8_runs_236 rfl ?_
                              refine g_iload hE dX8_runs_237 rfl ?_
                              refine g_iload hE dX8_runs_239 rfl ?_
                              obtain ⟨z83, hc82, hf⟩ := b1_of hf
                              refine g_callV2v hE mv_X8_comes kM_0 rfl wm_RX8_179 (by decide) (Nat.le_of_ble_eq_true rfl) dX8_runs_241 (c_X8_comes hc82) ?_
                              obtain rfl := so1 hf
                              exact hJ75
                            have hF80 : q77 = false → G true iX8_runs M (none, z0) 244 [some (.ref 0), some (.int last_), some (.int hands_), some (.int many_), some (.int week_12), some (.int rich_29), some (.int k_62), some (.int x71)] [] z63 := by
                              intro hq81
                              replace hf := it_f hf (by rw [hq81]; decide)
                              obtain rfl := so1 hf
                              exact hJ75
                            replace hf := hx78
                            clear hx78
                            refine g_aload_n hE dX8_runs_219 rfl ?_
                            refine gtX8_16 hE kM_0 wf_RX8_37 dX8_runs_220 ?_
                            refine g_iload hE dX8_runs_223 rfl ?_
                            obtain ⟨h84, hf⟩ := ck_of hf
                            refine g_iald hE kM_10 h84 dX8_runs_225 ?_
                            refine g_iload hE dX8_runs_226 rfl ?_
                            refine g_icmp_ne 244 hE dX8_runs_228 (by decide) (fun h85 => ?_) (fun h85 => ?_)
                            · replace hf := it_f hf h85
                              obtain rfl := so1 hf
                              exact hF80 rfl
                            · replace hf := it_t hf h85
                              refine g_iload hE dX8_runs_231 rfl ?_
                              refine g_if_eq 244 hE dX8_runs_233 (by decide) (fun h86 => ?_) (fun h86 => ?_)
                              · replace hf := it_f hf (fun q => q h86)
                                obtain rfl := so1 hf
                                exact hF80 rfl
                              · replace hf := it_t hf h86
                                obtain rfl := so1 hf
                                exact hT79 rfl
                          replace hf := hx72
                          clear hx72
                          refine g_aload_n hE dX8_runs_168 rfl ?_
                          refine gtX8_17 hE kM_0 wf_RX8_40 dX8_runs_169 ?_
                          refine g_iload hE dX8_runs_172 rfl ?_
                          obtain ⟨h87, hf⟩ := ck_of hf
                          refine g_iald hE kM_11 h87 dX8_runs_174 ?_
                          refine g_aload_n hE dX8_runs_175 rfl ?_
                          refine gtX8_5 hE kM_0 wf_RX8_109 dX8_runs_176 ?_
                          refine g_icmp_ge 207 hE dX8_runs_179 (by decide) (fun h88 => ?_) (fun h88 => ?_)
                          · replace hf := it_f hf (cv_ngt h88)
                            obtain ⟨x89, hx90, hf⟩ := b1_of hf
                            have hJ91 : G true iX8_runs M (none, z0) 217 [some (.ref 0), some (.int last_), some (.int hands_), some (.int many_), some (.int week_12), some (.int rich_29), some (.int k_62), none] [.int x89] z63 := by
                              obtain rfl := so1 hf
                              exact hJ73
                            replace hf := hx90
                            clear hx90
                            refine g_iload hE dX8_runs_207 rfl ?_
                            refine g_if_ne 216 hE dX8_runs_209 (by decide) (fun h92 => ?_) (fun h92 => ?_)
                            · replace hf := it_f hf h92
                              refine g_iconst hE (0) dX8_runs_216 (by decide) ?_
                              obtain rfl := so1 hf
                              exact hJ91
                            · replace hf := it_t hf h92
                              refine g_iconst hE (1) dX8_runs_212 (by decide) ?_
                              refine g_goto 217 hE dX8_runs_213 (by decide) ?_
                              obtain rfl := so1 hf
                              exact hJ91
                          · replace hf := it_t hf (cv_gt h88)
                            obtain ⟨x93, hx94, hf⟩ := b1_of hf
                            have hJ95 : G true iX8_runs M (none, z0) 217 [some (.ref 0), some (.int last_), some (.int hands_), some (.int many_), some (.int week_12), some (.int rich_29), some (.int k_62), none] [.int x93] z63 := by
                              obtain rfl := so1 hf
                              exact hJ73
                            replace hf := hx94
                            clear hx94
                            refine g_aload_n hE dX8_runs_182 rfl ?_
                            refine gtX8_8 hE kM_0 wf_RX8_28 dX8_runs_183 ?_
                            refine g_aload_n hE dX8_runs_186 rfl ?_
                            refine gtX8_17 hE kM_0 wf_RX8_40 dX8_runs_187 ?_
                            refine g_iload hE dX8_runs_190 rfl ?_
                            obtain ⟨h96, hf⟩ := ck_of hf
                            refine g_iald hE kM_11 h96 dX8_runs_192 ?_
                            obtain ⟨h97, hf⟩ := ck_of hf
                            refine g_iald hE kM_7 h97 dX8_runs_193 ?_
                            refine g_iload hE dX8_runs_194 rfl ?_
                            refine g_icmp_ne 203 hE dX8_runs_196 (by decide) (fun h98 => ?_) (fun h98 => ?_)
                            · replace hf := it_f hf h98
                              refine g_iconst hE (0) dX8_runs_203 (by decide) ?_
                              refine g_goto 217 hE dX8_runs_204 (by decide) ?_
                              obtain rfl := so1 hf
                              exact hJ95
                            · replace hf := it_t hf h98
                              refine g_iconst hE (1) dX8_runs_199 (by decide) ?_
                              refine g_goto 217 hE dX8_runs_200 (by decide) ?_
                              obtain rfl := so1 hf
                              exact hJ95
                    exact hl64 _ _ _ hx67
              exact hl31 _ _ _ hx34
            clear hf
            have hl23 : ∀ (n25 : Nat) (k_21 : Int32) (z22 : Sg), f_X8_runs_lp3 hands_ week_12 n25 k_21 z22 = some z28 → G true iX8_runs M (none, z0) 77 [some (.ref 0), some (.int last_), some (.int hands_), some (.int many_), some (.int week_12), some (.int k_21), none, none] [] z22 := by
              intro n25
              induction n25 with
              | zero => intro k_21 z22 hf; cases hf
              | succ n25 ih24 =>
                intro k_21 z22 hf
                rw [f_X8_runs_lp3] at hf
                refine g_iload hE dX8_runs_77 rfl ?_
                refine g_iload_n hE dX8_runs_79 rfl ?_
                refine g_icmp_ge 149 hE dX8_runs_80 (by decide) (fun h99 => ?_) (fun h99 => ?_)
                · replace hf := it_f hf (cv_ngt h99)
                  obtain rfl := so1 hf
                  exact g_wk [true, true, true, true, true, false, false, false] rfl hJ27
                · replace hf := it_t hf (cv_gt h99)
                  refine g_aload_n hE dX8_runs_83 rfl ?_
                  refine gtX8_14 hE kM_0 wf_RX8_34 dX8_runs_84 ?_
                  refine g_iload hE dX8_runs_87 rfl ?_
                  obtain ⟨h100, hf⟩ := ck_of hf
                  refine g_iald hE kM_9 h100 dX8_runs_89 ?_
                  refine g_istore [some _, some _, some _, some _, some _, some _, some _, none] hE dX8_runs_90 (by decide) rfl ?_
                  refine g_aload_n hE dX8_runs_92 rfl ?_
                  refine gtX8_18 hE kM_0 wf_RX8_43 dX8_runs_93 ?_
                  refine g_iload hE dX8_runs_96 rfl ?_
                  obtain ⟨x101, hx102, hf⟩ := b1_of hf
                  have hJ103 : G true iX8_runs M (none, z0) 142 [some (.ref 0), some (.int last_), some (.int hands_), some (.int many_), some (.int week_12), some (.int k_21), some (.int (rI z22 9 (ix k_21))), none] [.int x101, .int (rI z22 9 (ix k_21)), .ref 12] z22 := by
                    obtain ⟨h104, hf⟩ := ck_of hf
                    refine g_iast hE kM_12 h104 dX8_runs_142 ?_
                    refine g_wk [true, true, true, true, true, true, false, false] rfl ?_
                    refine g_iinc [some _, some _, some _, some _, some _, some _, none, none] hE (k_21 + (1 : Int32)) dX8_runs_143 rfl rfl (by decide) rfl ?_
                    refine g_goto 77 hE dX8_runs_146 (by decide) ?_
                    exact (ih24 _ _ hf)
                  replace hf := hx102
                  clear hx102
                  obtain ⟨q105, hx106, hf⟩ := b1_of hf
                  have hT107 : q105 = true → G true iX8_runs M (none, z0) 130 [some (.ref 0), some (.int last_), some (.int hands_), some (.int many_), some (.int week_12), some (.int k_21), some (.int (rI z22 9 (ix k_21))), none] [.int (rI z22 9 (ix k_21)), .ref 12] z22 := by
                    intro hq109
                    replace hf := it_t hf hq109
                    refine g_iload hE dX8_runs_130 rfl ?_
                    refine g_goto 142 hE dX8_runs_132 (by decide) ?_
                    obtain rfl := so1 hf
                    exact hJ103
                  have hF108 : q105 = false → G true iX8_runs M (none, z0) 135 [some (.ref 0), some (.int last_), some (.int hands_), some (.int many_), some (.int week_12), some (.int k_21), some (.int (rI z22 9 (ix k_21))), none] [.int (rI z22 9 (ix k_21)), .ref 12] z22 := by
                    intro hq109
                    replace hf := it_f hf (by rw [hq109]; decide)
                    refine g_aload_n hE dX8_runs_135 rfl ?_
                    refine gtX8_18 hE kM_0 wf_RX8_43 dX8_runs_136 ?_
                    refine g_iload hE dX8_runs_139 rfl ?_
                    obtain ⟨h110, hf⟩ := ck_of hf
                    refine g_iald hE kM_12 h110 dX8_runs_141 ?_
                    obtain rfl := so1 hf
                    exact hJ103
                  replace hf := hx106
                  clear hx106
                  refine g_aload_n hE dX8_runs_98 rfl ?_
                  refine gtX8_13 hE kM_0 wf_RX8_31 dX8_runs_99 ?_
                  refine g_iload hE dX8_runs_102 rfl ?_
                  obtain ⟨h111, hf⟩ := ck_of hf
                  refine g_iald hE kM_8 h111 dX8_runs_104 ?_
                  refine g_iload hE dX8_runs_105 rfl ?_
                  refine g_icmp_ne 135 hE dX8_runs_107 (by decide) (fun h112 => ?_) (fun h112 => ?_)
                  · replace hf := it_f hf h112
                    obtain rfl := so1 hf
                    exact hF108 rfl
                  · replace hf := it_t hf h112
                    refine g_iload hE dX8_runs_110 rfl ?_
                    refine g_aload_n hE dX8_runs_112 rfl ?_
                    refine gtX8_2 hE kM_0 wf_RX8_106 dX8_runs_113 ?_
                    refine g_icmp_ge 135 hE dX8_runs_116 (by decide) (fun h113 => ?_) (fun h113 => ?_)
                    · replace hf := it_f hf (cv_ngt h113)
                      obtain rfl := so1 hf
                      exact hF108 rfl
                    · replace hf := it_t hf (cv_gt h113)
                      refine g_aload_n hE dX8_runs_119 rfl ?_
                      refine gtX8_18 hE kM_0 wf_RX8_43 dX8_runs_120 ?_
                      refine g_iload hE dX8_runs_123 rfl ?_
                      obtain ⟨h114, hf⟩ := ck_of hf
                      refine g_iald hE kM_12 h114 dX8_runs_125 ?_
                      refine g_iconst hE (-1) dX8_runs_126 (by decide) ?_
                      refine g_icmp_ne 135 hE dX8_runs_127 (by decide) (fun h115 => ?_) (fun h115 => ?_)
                      · replace hf := it_f hf h115
                        obtain rfl := so1 hf
                        exact hF108 rfl
                      · replace hf := it_t hf h115
                        obtain rfl := so1 hf
                        exact hT107 rfl
            exact hl23 _ _ _ hx26
      exact hl14 _ _ _ hx17
    replace hf := hx10
    clear hx10
    refine g_iload_n hE dX8_runs_42 rfl ?_
    refine g_bipush hE (12) dX8_runs_43 (by decide) ?_
    refine g_icmp_ge 52 hE dX8_runs_45 (by decide) (fun h116 => ?_) (fun h116 => ?_)
    · replace hf := it_f hf (cv_ngt h116)
      refine g_bipush hE (12) dX8_runs_52 (by decide) ?_
      obtain rfl := so1 hf
      exact hJ11
    · replace hf := it_t hf (cv_gt h116)
      refine g_iload_n hE dX8_runs_48 rfl ?_
      refine g_goto 54 hE dX8_runs_49 (by decide) ?_
      obtain rfl := so1 hf
      exact hJ11
  clear hf
  have hl3 : ∀ (n5 : Nat) (v_1 : Int32) (z2 : Sg), f_X8_runs_lp1  n5 v_1 z2 = some z8 → G true iX8_runs M (none, z0) 3 [some (.ref 0), some (.int last_), some (.int hands_), some (.int many_), some (.int v_1), none, none, none] [] z2 := by
    intro n5
    induction n5 with
    | zero => intro v_1 z2 hf; cases hf
    | succ n5 ih4 =>
      intro v_1 z2 hf
      rw [f_X8_runs_lp1] at hf
      refine g_iload hE dX8_runs_3 rfl ?_
      refine g_bipush hE (8) dX8_runs_5 (by decide) ?_
      refine g_icmp_ge 40 hE dX8_runs_7 (by decide) (fun h117 => ?_) (fun h117 => ?_)
      · replace hf := it_f hf (cv_ngt h117)
        obtain rfl := so1 hf
        exact g_wk [true, true, true, true, false, false, false, false] rfl hJ7
      · replace hf := it_t hf (cv_gt h117)
        refine g_aload_n hE dX8_runs_10 rfl ?_
        refine gtX8_18 hE kM_0 wf_RX8_43 dX8_runs_11 ?_
        refine g_iload hE dX8_runs_14 rfl ?_
        refine g_iconst hE (-1) dX8_runs_16 (by decide) ?_
        obtain ⟨h118, hf⟩ := ck_of hf
        refine g_iast hE kM_12 h118 dX8_runs_17 ?_
        refine g_aload_n hE dX8_runs_18 rfl ?_
        refine gtX8_19 hE kM_0 wf_RX8_46 dX8_runs_19 ?_
        refine g_iload hE dX8_runs_22 rfl ?_
        refine g_iconst hE (-1) dX8_runs_24 (by decide) ?_
        obtain ⟨h119, hf⟩ := ck_of hf
        refine g_iast hE kM_13 h119 dX8_runs_25 ?_
        refine g_aload_n hE dX8_runs_26 rfl ?_
        refine gtX8_20 hE kM_0 wf_RX8_49 dX8_runs_27 ?_
        refine g_iload hE dX8_runs_30 rfl ?_
        refine g_iconst hE (-1) dX8_runs_32 (by decide) ?_
        obtain ⟨h120, hf⟩ := ck_of hf
        refine g_iast hE kM_14 h120 dX8_runs_33 ?_
        refine g_iinc [some _, some _, some _, some _, some _, none, none, none] hE (v_1 + (1 : Int32)) dX8_runs_34 rfl rfl (by decide) rfl ?_
        refine g_goto 3 hE dX8_runs_37 (by decide) ?_
        exact (ih4 _ _ hf)
  exact hl3 _ _ _ hx6
set_option maxHeartbeats 4000000 in
set_option maxRecDepth 100000 in
theorem c_X8_runsTo {l : Launch} {w : WC} {week_ : Int32} {z : Sg} {z0 : Sg} (hf : f_X8_runsTo week_ z = some z0) : CT true l iX8_runsTo w [.ref 0, .int week_] z none z0 := by
  refine ct_of 0 (lv := [some (.ref 0), some (.int week_)]) (by decide +kernel) rfl (Nat.le_of_ble_eq_true rfl) rfl (fun M hl hw hE => ?_)
  subst hl
  subst hw
  unfold f_X8_runsTo at hf
  refine g_aload_n hE dX8_runsTo_0 rfl ?_
  obtain ⟨z2, hc1, hf⟩ := b1_of hf
  refine g_callV0v hE mv_X8_reads kM_0 rfl wm_RX8_123 (by decide) (Nat.le_of_ble_eq_true rfl) dX8_runsTo_1 (c_X8_reads hc1) ?_
  refine g_aload_n hE dX8_runsTo_4 rfl ?_
  refine g_iload_n hE dX8_runsTo_5 rfl ?_
  refine g_aload_n hE dX8_runsTo_6 rfl ?_
  refine gtX8_12 hE kM_0 wf_RX8_145 dX8_runsTo_7 ?_
  refine g_aload_n hE dX8_runsTo_10 rfl ?_
  refine gtX8_15 hE kM_0 wf_RX8_148 dX8_runsTo_11 ?_
  obtain ⟨z4, hc3, hf⟩ := b1_of hf
  refine g_callV3v hE mv_X8_runs kM_0 rfl wm_RX8_183 (by decide) (Nat.le_of_ble_eq_true rfl) dX8_runsTo_14 (c_X8_runs hc3) ?_
  obtain rfl := so1 hf
  exact g_ret hE rfl dX8_runsTo_17
set_option maxHeartbeats 4000000 in
set_option maxRecDepth 100000 in
theorem c_X8_bitsNow {l : Launch} {w : WC} {what_ : Int32} {z : Sg} {r0 : Int32} (hf : f_X8_bitsNow what_ z = some r0) : CT true l iX8_bitsNow w [.ref 0, .int what_] z (some (.int r0)) z := by
  refine ct_of 3 (lv := [some (.ref 0), some (.int what_), none, none, none]) (by decide +kernel) rfl (Nat.le_of_ble_eq_true rfl) rfl (fun M hl hw hE => ?_)
  subst hl
  subst hw
  unfold f_X8_bitsNow at hf
  refine g_iconst hE (0) dX8_bitsNow_0 (by decide) ?_
  refine g_istore_n [some _, some _, some _, none, none] hE dX8_bitsNow_1 (by decide) rfl ?_
  refine g_iconst hE (0) dX8_bitsNow_2 (by decide) ?_
  refine g_istore_n [some _, some _, some _, some _, none] hE dX8_bitsNow_3 (by decide) rfl ?_
  obtain ⟨bits_8, hx6, hf⟩ := b1_of hf
  have hJ7 : G true iX8_bitsNow M (some (.int r0), z) 79 [some (.ref 0), some (.int what_), some (.int bits_8), none, none] [] z := by
    refine g_iload_n hE dX8_bitsNow_79 rfl ?_
    obtain rfl := so1 hf
    exact g_iret hE rfl dX8_bitsNow_80
  clear hf
  have hl3 : ∀ (n5 : Nat) (bits_1 : Int32) (v_2 : Int32), f_X8_bitsNow_lp1 what_ z n5 bits_1 v_2 = some bits_8 → G true iX8_bitsNow M (some (.int r0), z) 4 [some (.ref 0), some (.int what_), some (.int bits_1), some (.int v_2), none] [] z := by
    intro n5
    induction n5 with
    | zero => intro bits_1 v_2 hf; cases hf
    | succ n5 ih4 =>
      intro bits_1 v_2 hf
      rw [f_X8_bitsNow_lp1] at hf
      refine g_iload_n hE dX8_bitsNow_4 rfl ?_
      refine g_aload_n hE dX8_bitsNow_5 rfl ?_
      refine gtX8_2 hE kM_0 wf_RX8_106 dX8_bitsNow_6 ?_
      refine g_icmp_ge 79 hE dX8_bitsNow_9 (by decide) (fun h9 => ?_) (fun h9 => ?_)
      · replace hf := it_f hf (cv_ngt h9)
        obtain rfl := so1 hf
        exact g_wk [true, true, true, false, false] rfl hJ7
      · replace hf := it_t hf (cv_gt h9)
        obtain ⟨x10, hx11, hf⟩ := b1_of hf
        have hJ12 : G true iX8_bitsNow M (some (.int r0), z) 55 [some (.ref 0), some (.int what_), some (.int bits_1), some (.int v_2), none] [.int x10] z := by
          refine g_istore [some _, some _, some _, some _, some _] hE dX8_bitsNow_55 (by decide) rfl ?_
          refine g_iload_n hE dX8_bitsNow_57 rfl ?_
          obtain ⟨x13, hx14, hf⟩ := b1_of hf
          have hJ15 : G true iX8_bitsNow M (some (.int r0), z) 71 [some (.ref 0), some (.int what_), some (.int bits_1), some (.int v_2), some (.int x10)] [.int x13, .int bits_1] z := by
            refine g_ior hE dX8_bitsNow_71 ?_
            refine g_istore_n [some _, some _, some _, some _, some _] hE dX8_bitsNow_72 (by decide) rfl ?_
            refine g_wk [true, true, true, true, false] rfl ?_
            refine g_iinc [some _, some _, some _, some _, none] hE (v_2 + (1 : Int32)) dX8_bitsNow_73 rfl rfl (by decide) rfl ?_
            refine g_goto 4 hE dX8_bitsNow_76 (by decide) ?_
            exact (ih4 _ _ hf)
          replace hf := hx14
          clear hx14
          refine g_iload hE dX8_bitsNow_58 rfl ?_
          refine g_iload_n hE dX8_bitsNow_60 rfl ?_
          refine g_icmp_ne 70 hE dX8_bitsNow_61 (by decide) (fun h16 => ?_) (fun h16 => ?_)
          · replace hf := it_f hf h16
            refine g_iconst hE (0) dX8_bitsNow_70 (by decide) ?_
            obtain rfl := so1 hf
            exact hJ15
          · replace hf := it_t hf h16
            refine g_iconst hE (1) dX8_bitsNow_64 (by decide) ?_
            refine g_iload_n hE dX8_bitsNow_65 rfl ?_
            refine g_ishl hE dX8_bitsNow_66 ?_
            refine g_goto 71 hE dX8_bitsNow_67 (by decide) ?_
            obtain rfl := so1 hf
            exact hJ15
        replace hf := hx11
        clear hx11
        refine g_aload_n hE dX8_bitsNow_12 rfl ?_
        refine gtX8_18 hE kM_0 wf_RX8_43 dX8_bitsNow_13 ?_
        refine g_iload_n hE dX8_bitsNow_16 rfl ?_
        obtain ⟨h17, hf⟩ := ck_of hf
        refine g_iald hE kM_12 h17 dX8_bitsNow_17 ?_
        refine g_iconst hE (-1) dX8_bitsNow_18 (by decide) ?_
        refine g_icmp_ne 26 hE dX8_bitsNow_19 (by decide) (fun h18 => ?_) (fun h18 => ?_)
        · replace hf := it_f hf h18
          obtain ⟨x19, hx20, hf⟩ := b1_of hf
          have hJ21 : G true iX8_bitsNow M (some (.int r0), z) 55 [some (.ref 0), some (.int what_), some (.int bits_1), some (.int v_2), none] [.int x19] z := by
            obtain rfl := so1 hf
            exact hJ12
          replace hf := hx20
          clear hx20
          refine g_aload_n hE dX8_bitsNow_26 rfl ?_
          refine gtX8_19 hE kM_0 wf_RX8_46 dX8_bitsNow_27 ?_
          refine g_iload_n hE dX8_bitsNow_30 rfl ?_
          obtain ⟨h22, hf⟩ := ck_of hf
          refine g_iald hE kM_13 h22 dX8_bitsNow_31 ?_
          refine g_iconst hE (-1) dX8_bitsNow_32 (by decide) ?_
          refine g_icmp_ne 40 hE dX8_bitsNow_33 (by decide) (fun h23 => ?_) (fun h23 => ?_)
          · replace hf := it_f hf h23
            obtain ⟨x24, hx25, hf⟩ := b1_of hf
            have hJ26 : G true iX8_bitsNow M (some (.int r0), z) 55 [some (.ref 0), some (.int what_), some (.int bits_1), some (.int v_2), none] [.int x24] z := by
              obtain rfl := so1 hf
              exact hJ21
            replace hf := hx25
            clear hx25
            refine g_aload_n hE dX8_bitsNow_40 rfl ?_
            refine gtX8_20 hE kM_0 wf_RX8_49 dX8_bitsNow_41 ?_
            refine g_iload_n hE dX8_bitsNow_44 rfl ?_
            obtain ⟨h27, hf⟩ := ck_of hf
            refine g_iald hE kM_14 h27 dX8_bitsNow_45 ?_
            refine g_iconst hE (-1) dX8_bitsNow_46 (by decide) ?_
            refine g_icmp_eq 54 hE dX8_bitsNow_47 (by decide) (fun h28 => ?_) (fun h28 => ?_)
            · replace hf := it_f hf (fun q => q h28)
              refine g_iconst hE (2) dX8_bitsNow_54 (by decide) ?_
              obtain rfl := so1 hf
              exact hJ26
            · replace hf := it_t hf h28
              refine g_iconst hE (1) dX8_bitsNow_50 (by decide) ?_
              refine g_goto 55 hE dX8_bitsNow_51 (by decide) ?_
              obtain rfl := so1 hf
              exact hJ26
          · replace hf := it_t hf h23
            refine g_iconst hE (0) dX8_bitsNow_36 (by decide) ?_
            refine g_goto 55 hE dX8_bitsNow_37 (by decide) ?_
            obtain rfl := so1 hf
            exact hJ21
        · replace hf := it_t hf h18
          refine g_iconst hE (-1) dX8_bitsNow_22 (by decide) ?_
          refine g_goto 55 hE dX8_bitsNow_23 (by decide) ?_
          obtain rfl := so1 hf
          exact hJ12
  exact hl3 _ _ _ hx6
set_option maxHeartbeats 4000000 in
set_option maxRecDepth 100000 in
theorem c_X8_behindOf {l : Launch} {w : WC} {week_ : Int32} {what_ : Int32} {z : Sg} {r0 : Int32} {z0 : Sg} (hf : f_X8_behindOf week_ what_ z = some (r0, z0)) : CT true l iX8_behindOf w [.ref 0, .int week_, .int what_] z (some (.int r0)) z0 := by
  refine ct_of 0 (lv := [some (.ref 0), some (.int week_), some (.int what_)]) (by decide +kernel) rfl (Nat.le_of_ble_eq_true rfl) rfl (fun M hl hw hE => ?_)
  subst hl
  subst hw
  unfold f_X8_behindOf at hf
  refine g_aload_n hE dX8_behindOf_0 rfl ?_
  refine g_iload_n hE dX8_behindOf_1 rfl ?_
  obtain ⟨z2, hc1, hf⟩ := b1_of hf
  refine g_callV1v hE mv_X8_runsTo kM_0 rfl wm_RX8_187 (by decide) (Nat.le_of_ble_eq_true rfl) dX8_behindOf_2 (c_X8_runsTo hc1) ?_
  refine g_aload_n hE dX8_behindOf_5 rfl ?_
  refine g_iload_n hE dX8_behindOf_6 rfl ?_
  obtain ⟨r4, hc3, hf⟩ := b1_of hf
  refine g_callV1r hE mv_X8_bitsNow kM_0 rfl wm_RX8_191 (by decide) (Nat.le_of_ble_eq_true rfl) dX8_behindOf_7 (c_X8_bitsNow hc3) ?_
  obtain ⟨rfl, rfl⟩ := so2 hf
  exact g_iret hE rfl dX8_behindOf_10
set_option maxHeartbeats 4000000 in
set_option maxRecDepth 100000 in
theorem c_X8_behind {l : Launch} {w : WC} {week_ : Int32} {what_ : Int32} {z : Sg} {r0 : Int32} {z0 : Sg} (hf : f_X8_behind week_ what_ z = some (r0, z0)) : CT true l iX8_behind w [.ref 0, .int week_, .int what_] z (some (.int r0)) z0 := by
  refine ct_of 0 (lv := [some (.ref 0), some (.int week_), some (.int what_)]) (by decide +kernel) rfl (Nat.le_of_ble_eq_true rfl) rfl (fun M hl hw hE => ?_)
  subst hl
  subst hw
  unfold f_X8_behind at hf
  obtain ⟨x1, z2, hx3, hf⟩ := b2_of hf
  have hJ4 : G true iX8_behind M (some (.int r0), z0) 27 [some (.ref 0), some (.int week_), some (.int what_)] [.int x1] z2 := by
    obtain ⟨rfl, rfl⟩ := so2 hf
    exact g_iret hE rfl dX8_behind_27
  replace hf := hx3
  clear hx3
  obtain ⟨q5, hx6, hf⟩ := b1_of hf
  have hT7 : q5 = true → G true iX8_behind M (some (.int r0), z0) 16 [some (.ref 0), some (.int week_), some (.int what_)] [] z := by
    intro hq9
    replace hf := it_t hf hq9
    refine g_aload_n hE dX8_behind_16 rfl ?_
    refine g_iload_n hE dX8_behind_17 rfl ?_
    refine g_iload_n hE dX8_behind_18 rfl ?_
    obtain ⟨r12, z11, hc10, hf⟩ := b2_of hf
    refine g_callV2r hE mv_X8_behindOf kM_0 rfl wm_RX8_194 (by decide) (Nat.le_of_ble_eq_true rfl) dX8_behind_19 (c_X8_behindOf hc10) ?_
    refine g_goto 27 hE dX8_behind_22 (by decide) ?_
    obtain ⟨rfl, rfl⟩ := so2 hf
    exact hJ4
  have hF8 : q5 = false → G true iX8_behind M (some (.int r0), z0) 25 [some (.ref 0), some (.int week_), some (.int what_)] [] z := by
    intro hq9
    replace hf := it_f hf (by rw [hq9]; decide)
    refine g_bipush hE (-2) dX8_behind_25 (by decide) ?_
    obtain ⟨rfl, rfl⟩ := so2 hf
    exact hJ4
  replace hf := hx6
  clear hx6
  refine g_iload_n hE dX8_behind_0 rfl ?_
  obtain ⟨r14, hc13, hf⟩ := b1_of hf
  refine g_callS1r hE ms_X8_isWeek wm_RX8_139 (by decide) (Nat.le_of_ble_eq_true rfl) dX8_behind_1 (c_X8_isWeek hc13) ?_
  refine g_if_eq 25 hE dX8_behind_4 (by decide) (fun h15 => ?_) (fun h15 => ?_)
  · replace hf := it_f hf (fun q => q h15)
    obtain rfl := so1 hf
    exact hF8 rfl
  · replace hf := it_t hf h15
    refine g_iload_n hE dX8_behind_7 rfl ?_
    refine g_iconst hE (0) dX8_behind_8 (by decide) ?_
    refine g_iconst hE (2) dX8_behind_9 (by decide) ?_
    obtain ⟨r17, hc16, hf⟩ := b1_of hf
    refine g_callS3r hE ms_X8_in wm_RX8_98 (by decide) (Nat.le_of_ble_eq_true rfl) dX8_behind_10 (c_X8_in hc16) ?_
    refine g_if_eq 25 hE dX8_behind_13 (by decide) (fun h18 => ?_) (fun h18 => ?_)
    · replace hf := it_f hf (fun q => q h18)
      obtain rfl := so1 hf
      exact hF8 rfl
    · replace hf := it_t hf h18
      obtain rfl := so1 hf
      exact hT7 rfl
set_option maxHeartbeats 4000000 in
set_option maxRecDepth 100000 in
theorem c_X8_goneOf {l : Launch} {w : WC} {v_ : Int32} {what_ : Int32} {z : Sg} {r0 : Int32} {z0 : Sg} (hf : f_X8_goneOf v_ what_ z = some (r0, z0)) : CT true l iX8_goneOf w [.ref 0, .int v_, .int what_] z (some (.int r0)) z0 := by
  refine ct_of 0 (lv := [some (.ref 0), some (.int v_), some (.int what_)]) (by decide +kernel) rfl (Nat.le_of_ble_eq_true rfl) rfl (fun M hl hw hE => ?_)
  subst hl
  subst hw
  unfold f_X8_goneOf at hf
  refine g_aload_n hE dX8_goneOf_0 rfl ?_
  refine g_bipush hE (39) dX8_goneOf_1 (by decide) ?_
  obtain ⟨z2, hc1, hf⟩ := b1_of hf
  refine g_callV1v hE mv_X8_runsTo kM_0 rfl wm_RX8_187 (by decide) (Nat.le_of_ble_eq_true rfl) dX8_goneOf_3 (c_X8_runsTo hc1) ?_
  obtain ⟨x3, hx4, hf⟩ := b1_of hf
  have hJ5 : G true iX8_goneOf M (some (.int r0), z0) 25 [some (.ref 0), some (.int v_), some (.int what_)] [.int x3] z2 := by
    obtain ⟨rfl, rfl⟩ := so2 hf
    exact g_iret hE rfl dX8_goneOf_25
  replace hf := hx4
  clear hx4
  refine g_iload_n hE dX8_goneOf_6 rfl ?_
  refine g_if_ne 19 hE dX8_goneOf_7 (by decide) (fun h6 => ?_) (fun h6 => ?_)
  · replace hf := it_f hf h6
    refine g_aload_n hE dX8_goneOf_19 rfl ?_
    refine gtX8_19 hE kM_0 wf_RX8_46 dX8_goneOf_20 ?_
    refine g_iload_n hE dX8_goneOf_23 rfl ?_
    obtain ⟨h7, hf⟩ := ck_of hf
    refine g_iald hE kM_13 h7 dX8_goneOf_24 ?_
    obtain rfl := so1 hf
    exact hJ5
  · replace hf := it_t hf h6
    refine g_aload_n hE dX8_goneOf_10 rfl ?_
    refine gtX8_20 hE kM_0 wf_RX8_49 dX8_goneOf_11 ?_
    refine g_iload_n hE dX8_goneOf_14 rfl ?_
    obtain ⟨h8, hf⟩ := ck_of hf
    refine g_iald hE kM_14 h8 dX8_goneOf_15 ?_
    refine g_goto 25 hE dX8_goneOf_16 (by decide) ?_
    obtain rfl := so1 hf
    exact hJ5
set_option maxHeartbeats 4000000 in
set_option maxRecDepth 100000 in
theorem c_X8_gone {l : Launch} {w : WC} {virtue_ : Int32} {what_ : Int32} {z : Sg} {r0 : Int32} {z0 : Sg} (hf : f_X8_gone virtue_ what_ z = some (r0, z0)) : CT true l iX8_gone w [.ref 0, .int virtue_, .int what_] z (some (.int r0)) z0 := by
  refine ct_of 0 (lv := [some (.ref 0), some (.int virtue_), some (.int what_)]) (by decide +kernel) rfl (Nat.le_of_ble_eq_true rfl) rfl (fun M hl hw hE => ?_)
  subst hl
  subst hw
  unfold f_X8_gone at hf
  obtain ⟨x1, z2, hx3, hf⟩ := b2_of hf
  have hJ4 : G true iX8_gone M (some (.int r0), z0) 28 [some (.ref 0), some (.int virtue_), some (.int what_)] [.int x1] z2 := by
    obtain ⟨rfl, rfl⟩ := so2 hf
    exact g_iret hE rfl dX8_gone_28
  replace hf := hx3
  clear hx3
  obtain ⟨q5, z6, hx7, hf⟩ := b2_of hf
  have hT8 : q5 = true → G true iX8_gone M (some (.int r0), z0) 17 [some (.ref 0), some (.int virtue_), some (.int what_)] [] z6 := by
    intro hq10
    replace hf := it_t hf hq10
    refine g_aload_n hE dX8_gone_17 rfl ?_
    refine g_iload_n hE dX8_gone_18 rfl ?_
    refine g_iload_n hE dX8_gone_19 rfl ?_
    obtain ⟨r13, z12, hc11, hf⟩ := b2_of hf
    refine g_callV2r hE mv_X8_goneOf kM_0 rfl wm_RX8_197 (by decide) (Nat.le_of_ble_eq_true rfl) dX8_gone_20 (c_X8_goneOf hc11) ?_
    refine g_goto 28 hE dX8_gone_23 (by decide) ?_
    obtain ⟨rfl, rfl⟩ := so2 hf
    exact hJ4
  have hF9 : q5 = false → G true iX8_gone M (some (.int r0), z0) 26 [some (.ref 0), some (.int virtue_), some (.int what_)] [] z6 := by
    intro hq10
    replace hf := it_f hf (by rw [hq10]; decide)
    refine g_bipush hE (-2) dX8_gone_26 (by decide) ?_
    obtain ⟨rfl, rfl⟩ := so2 hf
    exact hJ4
  replace hf := hx7
  clear hx7
  refine g_aload_n hE dX8_gone_0 rfl ?_
  refine g_iload_n hE dX8_gone_1 rfl ?_
  obtain ⟨r16, z15, hc14, hf⟩ := b2_of hf
  refine g_callV1r hE mv_X8_isVirtue kM_0 rfl wm_RX8_126 (by decide) (Nat.le_of_ble_eq_true rfl) dX8_gone_2 (c_X8_isVirtue hc14) ?_
  refine g_if_eq 26 hE dX8_gone_5 (by decide) (fun h17 => ?_) (fun h17 => ?_)
  · replace hf := it_f hf (fun q => q h17)
    obtain ⟨rfl, rfl⟩ := so2 hf
    exact hF9 rfl
  · replace hf := it_t hf h17
    refine g_iload_n hE dX8_gone_8 rfl ?_
    refine g_iconst hE (0) dX8_gone_9 (by decide) ?_
    refine g_iconst hE (1) dX8_gone_10 (by decide) ?_
    obtain ⟨r19, hc18, hf⟩ := b1_of hf
    refine g_callS3r hE ms_X8_in wm_RX8_98 (by decide) (Nat.le_of_ble_eq_true rfl) dX8_gone_11 (c_X8_in hc18) ?_
    refine g_if_eq 26 hE dX8_gone_14 (by decide) (fun h20 => ?_) (fun h20 => ?_)
    · replace hf := it_f hf (fun q => q h20)
      obtain ⟨rfl, rfl⟩ := so2 hf
      exact hF9 rfl
    · replace hf := it_t hf h20
      obtain ⟨rfl, rfl⟩ := so2 hf
      exact hT8 rfl
set_option maxHeartbeats 4000000 in
set_option maxRecDepth 100000 in
theorem c_X8_emptyNow {l : Launch} {w : WC} {z : Sg} {r0 : Int32} {z0 : Sg} (hf : f_X8_emptyNow z = some (r0, z0)) : CT true l iX8_emptyNow w [.ref 0] z (some (.int r0)) z0 := by
  refine ct_of 0 (lv := [some (.ref 0)]) (by decide +kernel) rfl (Nat.le_of_ble_eq_true rfl) rfl (fun M hl hw hE => ?_)
  subst hl
  subst hw
  unfold f_X8_emptyNow at hf
  refine g_aload_n hE dX8_emptyNow_0 rfl ?_
  refine g_bipush hE (39) dX8_emptyNow_1 (by decide) ?_
  obtain ⟨z2, hc1, hf⟩ := b1_of hf
  refine g_callV1v hE mv_X8_runsTo kM_0 rfl wm_RX8_187 (by decide) (Nat.le_of_ble_eq_true rfl) dX8_emptyNow_3 (c_X8_runsTo hc1) ?_
  refine g_aload_n hE dX8_emptyNow_6 rfl ?_
  refine gtX8_21 hE kM_0 wf_RX8_170 dX8_emptyNow_7 ?_
  obtain ⟨rfl, rfl⟩ := so2 hf
  exact g_iret hE rfl dX8_emptyNow_10
set_option maxHeartbeats 4000000 in
set_option maxRecDepth 100000 in
theorem c_X8_empty {l : Launch} {w : WC} {z : Sg} {r0 : Int32} {z0 : Sg} (hf : f_X8_empty z = some (r0, z0)) : CT true l iX8_empty w [.ref 0] z (some (.int r0)) z0 := by
  refine ct_of 0 (lv := [some (.ref 0)]) (by decide +kernel) rfl (Nat.le_of_ble_eq_true rfl) rfl (fun M hl hw hE => ?_)
  subst hl
  subst hw
  unfold f_X8_empty at hf
  refine g_aload_n hE dX8_empty_0 rfl ?_
  obtain ⟨r3, z2, hc1, hf⟩ := b2_of hf
  refine g_callV0r hE mv_X8_emptyNow kM_0 rfl wm_RX8_200 (by decide) (Nat.le_of_ble_eq_true rfl) dX8_empty_1 (c_X8_emptyNow hc1) ?_
  obtain ⟨rfl, rfl⟩ := so2 hf
  exact g_iret hE rfl dX8_empty_4
set_option maxHeartbeats 4000000 in
set_option maxRecDepth 100000 in
theorem c_X8_saleNow {l : Launch} {w : WC} {z : Sg} {r0 : Int32} {z0 : Sg} (hf : f_X8_saleNow z = some (r0, z0)) : CT true l iX8_saleNow w [.ref 0] z (some (.int r0)) z0 := by
  refine ct_of 3 (lv := [some (.ref 0), none, none, none]) (by decide +kernel) rfl (Nat.le_of_ble_eq_true rfl) rfl (fun M hl hw hE => ?_)
  subst hl
  subst hw
  unfold f_X8_saleNow at hf
  refine g_aload_n hE dX8_saleNow_0 rfl ?_
  refine g_bipush hE (39) dX8_saleNow_1 (by decide) ?_
  refine g_iconst hE (2) dX8_saleNow_3 (by decide) ?_
  obtain ⟨r3, z2, hc1, hf⟩ := b2_of hf
  refine g_callV2r hE mv_X8_behindOf kM_0 rfl wm_RX8_194 (by decide) (Nat.le_of_ble_eq_true rfl) dX8_saleNow_4 (c_X8_behindOf hc1) ?_
  refine g_istore_n [some _, some _, none, none] hE dX8_saleNow_7 (by decide) rfl ?_
  refine g_iconst hE (0) dX8_saleNow_8 (by decide) ?_
  refine g_istore_n [some _, some _, some _, none] hE dX8_saleNow_9 (by decide) rfl ?_
  refine g_iconst hE (0) dX8_saleNow_10 (by decide) ?_
  refine g_istore_n [some _, some _, some _, some _] hE dX8_saleNow_11 (by decide) rfl ?_
  obtain ⟨sum_11, hx9, hf⟩ := b1_of hf
  have hJ10 : G true iX8_saleNow M (some (.int r0), z0) 47 [some (.ref 0), some (.int r3), some (.int sum_11), none] [] z2 := by
    refine g_iload_n hE dX8_saleNow_47 rfl ?_
    obtain ⟨rfl, rfl⟩ := so2 hf
    exact g_iret hE rfl dX8_saleNow_48
  clear hf
  have hl6 : ∀ (n8 : Nat) (sum_4 : Int32) (v_5 : Int32), f_X8_saleNow_lp1 r3 z2 n8 sum_4 v_5 = some sum_11 → G true iX8_saleNow M (some (.int r0), z0) 12 [some (.ref 0), some (.int r3), some (.int sum_4), some (.int v_5)] [] z2 := by
    intro n8
    induction n8 with
    | zero => intro sum_4 v_5 hf; cases hf
    | succ n8 ih7 =>
      intro sum_4 v_5 hf
      rw [f_X8_saleNow_lp1] at hf
      refine g_iload_n hE dX8_saleNow_12 rfl ?_
      refine g_aload_n hE dX8_saleNow_13 rfl ?_
      refine gtX8_2 hE kM_0 wf_RX8_106 dX8_saleNow_14 ?_
      refine g_icmp_ge 47 hE dX8_saleNow_17 (by decide) (fun h12 => ?_) (fun h12 => ?_)
      · replace hf := it_f hf (cv_ngt h12)
        obtain rfl := so1 hf
        exact g_wk [true, true, true, false] rfl hJ10
      · replace hf := it_t hf (cv_gt h12)
        refine g_iload_n hE dX8_saleNow_20 rfl ?_
        obtain ⟨x13, hx14, hf⟩ := b1_of hf
        have hJ15 : G true iX8_saleNow M (some (.int r0), z0) 39 [some (.ref 0), some (.int r3), some (.int sum_4), some (.int v_5)] [.int x13, .int sum_4] z2 := by
          refine g_iadd hE dX8_saleNow_39 ?_
          refine g_istore_n [some _, some _, some _, some _] hE dX8_saleNow_40 (by decide) rfl ?_
          refine g_iinc [some _, some _, some _, some _] hE (v_5 + (1 : Int32)) dX8_saleNow_41 rfl rfl (by decide) rfl ?_
          refine g_goto 12 hE dX8_saleNow_44 (by decide) ?_
          exact (ih7 _ _ hf)
        replace hf := hx14
        clear hx14
        refine g_iload_n hE dX8_saleNow_21 rfl ?_
        refine g_iload_n hE dX8_saleNow_22 rfl ?_
        obtain ⟨r17, hc16, hf⟩ := b1_of hf
        refine g_callS2r hE ms_X8_isIn wm_RX8_204 (by decide) (Nat.le_of_ble_eq_true rfl) dX8_saleNow_23 (c_X8_isIn hc16) ?_
        refine g_if_eq 38 hE dX8_saleNow_26 (by decide) (fun h18 => ?_) (fun h18 => ?_)
        · replace hf := it_f hf (fun q => q h18)
          refine g_iconst hE (0) dX8_saleNow_38 (by decide) ?_
          obtain rfl := so1 hf
          exact hJ15
        · replace hf := it_t hf h18
          refine g_aload_n hE dX8_saleNow_29 rfl ?_
          refine gtX8_4 hE kM_0 wf_RX8_19 dX8_saleNow_30 ?_
          refine g_iload_n hE dX8_saleNow_33 rfl ?_
          obtain ⟨h19, hf⟩ := ck_of hf
          refine g_iald hE kM_4 h19 dX8_saleNow_34 ?_
          refine g_goto 39 hE dX8_saleNow_35 (by decide) ?_
          obtain rfl := so1 hf
          exact hJ15
  exact hl6 _ _ _ hx9
set_option maxHeartbeats 4000000 in
set_option maxRecDepth 100000 in
theorem c_X8_sale {l : Launch} {w : WC} {z : Sg} {r0 : Int32} {z0 : Sg} (hf : f_X8_sale z = some (r0, z0)) : CT true l iX8_sale w [.ref 0] z (some (.int r0)) z0 := by
  refine ct_of 0 (lv := [some (.ref 0)]) (by decide +kernel) rfl (Nat.le_of_ble_eq_true rfl) rfl (fun M hl hw hE => ?_)
  subst hl
  subst hw
  unfold f_X8_sale at hf
  refine g_aload_n hE dX8_sale_0 rfl ?_
  obtain ⟨r3, z2, hc1, hf⟩ := b2_of hf
  refine g_callV0r hE mv_X8_saleNow kM_0 rfl wm_RX8_207 (by decide) (Nat.le_of_ble_eq_true rfl) dX8_sale_1 (c_X8_saleNow hc1) ?_
  obtain ⟨rfl, rfl⟩ := so2 hf
  exact g_iret hE rfl dX8_sale_4
set_option maxHeartbeats 4000000 in
set_option maxRecDepth 100000 in
theorem c_X8_saintOf {l : Launch} {w : WC} {z : Sg} {r0 : Int32} {z0 : Sg} (hf : f_X8_saintOf z = some (r0, z0)) : CT true l iX8_saintOf w [.ref 0] z (some (.int r0)) z0 := by
  refine ct_of 0 (lv := [some (.ref 0)]) (by decide +kernel) rfl (Nat.le_of_ble_eq_true rfl) rfl (fun M hl hw hE => ?_)
  subst hl
  subst hw
  unfold f_X8_saintOf at hf
  refine g_aload_n hE dX8_saintOf_0 rfl ?_
  refine g_bipush hE (39) dX8_saintOf_1 (by decide) ?_
  obtain ⟨z2, hc1, hf⟩ := b1_of hf
  refine g_callV1v hE mv_X8_runsTo kM_0 rfl wm_RX8_187 (by decide) (Nat.le_of_ble_eq_true rfl) dX8_saintOf_3 (c_X8_runsTo hc1) ?_
  refine g_aload_n hE dX8_saintOf_6 rfl ?_
  refine gtX8_22 hE kM_0 wf_RX8_173 dX8_saintOf_7 ?_
  obtain ⟨rfl, rfl⟩ := so2 hf
  exact g_iret hE rfl dX8_saintOf_10
set_option maxHeartbeats 4000000 in
set_option maxRecDepth 100000 in
theorem c_X8_saint {l : Launch} {w : WC} {z : Sg} {r0 : Int32} {z0 : Sg} (hf : f_X8_saint z = some (r0, z0)) : CT true l iX8_saint w [.ref 0] z (some (.int r0)) z0 := by
  refine ct_of 0 (lv := [some (.ref 0)]) (by decide +kernel) rfl (Nat.le_of_ble_eq_true rfl) rfl (fun M hl hw hE => ?_)
  subst hl
  subst hw
  unfold f_X8_saint at hf
  refine g_aload_n hE dX8_saint_0 rfl ?_
  obtain ⟨r3, z2, hc1, hf⟩ := b2_of hf
  refine g_callV0r hE mv_X8_saintOf kM_0 rfl wm_RX8_210 (by decide) (Nat.le_of_ble_eq_true rfl) dX8_saint_1 (c_X8_saintOf hc1) ?_
  obtain ⟨rfl, rfl⟩ := so2 hf
  exact g_iret hE rfl dX8_saint_4
set_option maxHeartbeats 4000000 in
set_option maxRecDepth 100000 in
theorem c_X8_fittingOf {l : Launch} {w : WC} {what_ : Int32} {i_ : Int32} {z : Sg} {r0 : Int32} (hf : f_X8_fittingOf what_ i_ z = some r0) : CT true l iX8_fittingOf w [.ref 0, .int what_, .int i_] z (some (.int r0)) z := by
  refine ct_of 3 (lv := [some (.ref 0), some (.int what_), some (.int i_), none, none, none]) (by decide +kernel) rfl (Nat.le_of_ble_eq_true rfl) rfl (fun M hl hw hE => ?_)
  subst hl
  subst hw
  unfold f_X8_fittingOf at hf
  refine g_iconst hE (0) dX8_fittingOf_0 (by decide) ?_
  refine g_istore_n [some _, some _, some _, some _, none, none] hE dX8_fittingOf_1 (by decide) rfl ?_
  refine g_iconst hE (0) dX8_fittingOf_2 (by decide) ?_
  refine g_istore [some _, some _, some _, some _, some _, none] hE dX8_fittingOf_3 (by decide) rfl ?_
  obtain ⟨bits_8, hx6, hf⟩ := b1_of hf
  have hJ7 : G true iX8_fittingOf M (some (.int r0), z) 88 [some (.ref 0), some (.int what_), some (.int i_), some (.int bits_8), none, none] [] z := by
    refine g_iload_n hE dX8_fittingOf_88 rfl ?_
    obtain rfl := so1 hf
    exact g_iret hE rfl dX8_fittingOf_89
  clear hf
  have hl3 : ∀ (n5 : Nat) (bits_1 : Int32) (k_2 : Int32), f_X8_fittingOf_lp1 what_ i_ z n5 bits_1 k_2 = some bits_8 → G true iX8_fittingOf M (some (.int r0), z) 5 [some (.ref 0), some (.int what_), some (.int i_), some (.int bits_1), some (.int k_2), none] [] z := by
    intro n5
    induction n5 with
    | zero => intro bits_1 k_2 hf; cases hf
    | succ n5 ih4 =>
      intro bits_1 k_2 hf
      rw [f_X8_fittingOf_lp1] at hf
      refine g_iload hE dX8_fittingOf_5 rfl ?_
      refine g_bipush hE (8) dX8_fittingOf_7 (by decide) ?_
      refine g_icmp_ge 88 hE dX8_fittingOf_9 (by decide) (fun h9 => ?_) (fun h9 => ?_)
      · replace hf := it_f hf (cv_ngt h9)
        obtain rfl := so1 hf
        exact g_wk [true, true, true, true, false, false] rfl hJ7
      · replace hf := it_t hf (cv_gt h9)
        obtain ⟨x10, hx11, hf⟩ := b1_of hf
        have hJ12 : G true iX8_fittingOf M (some (.int r0), z) 37 [some (.ref 0), some (.int what_), some (.int i_), some (.int bits_1), some (.int k_2), none] [.int x10] z := by
          refine g_istore [some _, some _, some _, some _, some _, some _] hE dX8_fittingOf_37 (by decide) rfl ?_
          refine g_iload_n hE dX8_fittingOf_39 rfl ?_
          obtain ⟨x13, hx14, hf⟩ := b1_of hf
          have hJ15 : G true iX8_fittingOf M (some (.int r0), z) 80 [some (.ref 0), some (.int what_), some (.int i_), some (.int bits_1), some (.int k_2), some (.int x10)] [.int x13, .int bits_1] z := by
            refine g_ior hE dX8_fittingOf_80 ?_
            refine g_istore_n [some _, some _, some _, some _, some _, some _] hE dX8_fittingOf_81 (by decide) rfl ?_
            refine g_wk [true, true, true, true, true, false] rfl ?_
            refine g_iinc [some _, some _, some _, some _, some _, none] hE (k_2 + (1 : Int32)) dX8_fittingOf_82 rfl rfl (by decide) rfl ?_
            refine g_goto 5 hE dX8_fittingOf_85 (by decide) ?_
            exact (ih4 _ _ hf)
          replace hf := hx14
          clear hx14
          obtain ⟨q16, hx17, hf⟩ := b1_of hf
          have hT18 : q16 = true → G true iX8_fittingOf M (some (.int r0), z) 72 [some (.ref 0), some (.int what_), some (.int i_), some (.int bits_1), some (.int k_2), some (.int x10)] [.int bits_1] z := by
            intro hq20
            replace hf := it_t hf hq20
            refine g_iconst hE (1) dX8_fittingOf_72 (by decide) ?_
            refine g_iload hE dX8_fittingOf_73 rfl ?_
            refine g_ishl hE dX8_fittingOf_75 ?_
            refine g_goto 80 hE dX8_fittingOf_76 (by decide) ?_
            obtain rfl := so1 hf
            exact hJ15
          have hF19 : q16 = false → G true iX8_fittingOf M (some (.int r0), z) 79 [some (.ref 0), some (.int what_), some (.int i_), some (.int bits_1), some (.int k_2), some (.int x10)] [.int bits_1] z := by
            intro hq20
            replace hf := it_f hf (by rw [hq20]; decide)
            refine g_iconst hE (0) dX8_fittingOf_79 (by decide) ?_
            obtain rfl := so1 hf
            exact hJ15
          replace hf := hx17
          clear hx17
          refine g_iload hE dX8_fittingOf_40 rfl ?_
          refine g_if_eq 79 hE dX8_fittingOf_42 (by decide) (fun h21 => ?_) (fun h21 => ?_)
          · replace hf := it_f hf (fun q => q h21)
            obtain rfl := so1 hf
            exact hF19 rfl
          · replace hf := it_t hf h21
            refine g_iload_n hE dX8_fittingOf_45 rfl ?_
            refine g_if_ne 62 hE dX8_fittingOf_46 (by decide) (fun h22 => ?_) (fun h22 => ?_)
            · replace hf := it_f hf h22
              refine g_aload_n hE dX8_fittingOf_62 rfl ?_
              refine g_iload hE dX8_fittingOf_63 rfl ?_
              refine g_iload_n hE dX8_fittingOf_65 rfl ?_
              obtain ⟨r24, hc23, hf⟩ := b1_of hf
              refine g_callV2r hE mv_X8_fits kM_0 rfl wm_RX8_160 (by decide) (Nat.le_of_ble_eq_true rfl) dX8_fittingOf_66 (c_X8_fits hc23) ?_
              refine g_if_eq 79 hE dX8_fittingOf_69 (by decide) (fun h25 => ?_) (fun h25 => ?_)
              · replace hf := it_f hf (fun q => q h25)
                obtain rfl := so1 hf
                exact hF19 rfl
              · replace hf := it_t hf h25
                obtain rfl := so1 hf
                exact hT18 rfl
            · replace hf := it_t hf h22
              refine g_aload_n hE dX8_fittingOf_49 rfl ?_
              refine g_iload_n hE dX8_fittingOf_50 rfl ?_
              refine g_iload hE dX8_fittingOf_51 rfl ?_
              obtain ⟨r27, hc26, hf⟩ := b1_of hf
              refine g_callV2r hE mv_X8_fits kM_0 rfl wm_RX8_160 (by decide) (Nat.le_of_ble_eq_true rfl) dX8_fittingOf_53 (c_X8_fits hc26) ?_
              refine g_if_eq 79 hE dX8_fittingOf_56 (by decide) (fun h28 => ?_) (fun h28 => ?_)
              · replace hf := it_f hf (fun q => q h28)
                obtain rfl := so1 hf
                exact hF19 rfl
              · replace hf := it_t hf h28
                refine g_goto 72 hE dX8_fittingOf_59 (by decide) ?_
                obtain rfl := so1 hf
                exact hT18 rfl
        replace hf := hx11
        clear hx11
        refine g_iload hE dX8_fittingOf_12 rfl ?_
        obtain ⟨x29, hx30, hf⟩ := b1_of hf
        have hJ31 : G true iX8_fittingOf M (some (.int r0), z) 29 [some (.ref 0), some (.int what_), some (.int i_), some (.int bits_1), some (.int k_2), none] [.int x29, .int k_2] z := by
          refine g_icmp_ge 36 hE dX8_fittingOf_29 (by decide) (fun h32 => ?_) (fun h32 => ?_)
          · replace hf := it_f hf (cv_ngt h32)
            refine g_iconst hE (0) dX8_fittingOf_36 (by decide) ?_
            obtain rfl := so1 hf
            exact hJ12
          · replace hf := it_t hf (cv_gt h32)
            refine g_iconst hE (1) dX8_fittingOf_32 (by decide) ?_
            refine g_goto 37 hE dX8_fittingOf_33 (by decide) ?_
            obtain rfl := so1 hf
            exact hJ12
        replace hf := hx30
        clear hx30
        refine g_iload_n hE dX8_fittingOf_14 rfl ?_
        refine g_if_ne 25 hE dX8_fittingOf_15 (by decide) (fun h33 => ?_) (fun h33 => ?_)
        · replace hf := it_f hf h33
          refine g_aload_n hE dX8_fittingOf_25 rfl ?_
          refine gtX8_5 hE kM_0 wf_RX8_109 dX8_fittingOf_26 ?_
          obtain rfl := so1 hf
          exact hJ31
        · replace hf := it_t hf h33
          refine g_aload_n hE dX8_fittingOf_18 rfl ?_
          refine gtX8_2 hE kM_0 wf_RX8_106 dX8_fittingOf_19 ?_
          refine g_goto 29 hE dX8_fittingOf_22 (by decide) ?_
          obtain rfl := so1 hf
          exact hJ31
  exact hl3 _ _ _ hx6
set_option maxHeartbeats 4000000 in
set_option maxRecDepth 100000 in
theorem c_X8_fitting {l : Launch} {w : WC} {what_ : Int32} {i_ : Int32} {z : Sg} {r0 : Int32} {z0 : Sg} (hf : f_X8_fitting what_ i_ z = some (r0, z0)) : CT true l iX8_fitting w [.ref 0, .int what_, .int i_] z (some (.int r0)) z0 := by
  refine ct_of 1 (lv := [some (.ref 0), some (.int what_), some (.int i_), none]) (by decide +kernel) rfl (Nat.le_of_ble_eq_true rfl) rfl (fun M hl hw hE => ?_)
  subst hl
  subst hw
  unfold f_X8_fitting at hf
  obtain ⟨x1, z2, hx3, hf⟩ := b2_of hf
  have hJ4 : G true iX8_fitting M (some (.int r0), z0) 30 [some (.ref 0), some (.int what_), some (.int i_), none] [.int x1] z2 := by
    refine g_istore_n [some _, some _, some _, some _] hE dX8_fitting_30 (by decide) rfl ?_
    obtain ⟨x5, hx6, hf⟩ := b1_of hf
    have hJ7 : G true iX8_fitting M (some (.int r0), z0) 46 [some (.ref 0), some (.int what_), some (.int i_), some (.int x1)] [.int x5] z2 := by
      obtain ⟨rfl, rfl⟩ := so2 hf
      exact g_iret hE rfl dX8_fitting_46
    replace hf := hx6
    clear hx6
    refine g_iload_n hE dX8_fitting_31 rfl ?_
    refine g_if_eq 44 hE dX8_fitting_32 (by decide) (fun h8 => ?_) (fun h8 => ?_)
    · replace hf := it_f hf (fun q => q h8)
      refine g_bipush hE (-2) dX8_fitting_44 (by decide) ?_
      obtain rfl := so1 hf
      exact hJ7
    · replace hf := it_t hf h8
      refine g_aload_n hE dX8_fitting_35 rfl ?_
      refine g_iload_n hE dX8_fitting_36 rfl ?_
      refine g_iload_n hE dX8_fitting_37 rfl ?_
      obtain ⟨r10, hc9, hf⟩ := b1_of hf
      refine g_callV2r hE mv_X8_fittingOf kM_0 rfl wm_RX8_213 (by decide) (Nat.le_of_ble_eq_true rfl) dX8_fitting_38 (c_X8_fittingOf hc9) ?_
      refine g_goto 46 hE dX8_fitting_41 (by decide) ?_
      obtain rfl := so1 hf
      exact hJ7
  replace hf := hx3
  clear hx3
  refine g_iload_n hE dX8_fitting_0 rfl ?_
  refine g_if_ne 12 hE dX8_fitting_1 (by decide) (fun h11 => ?_) (fun h11 => ?_)
  · replace hf := it_f hf h11
    obtain ⟨x12, z13, hx14, hf⟩ := b2_of hf
    have hJ15 : G true iX8_fitting M (some (.int r0), z0) 30 [some (.ref 0), some (.int what_), some (.int i_), none] [.int x12] z13 := by
      obtain ⟨rfl, rfl⟩ := so2 hf
      exact hJ4
    replace hf := hx14
    clear hx14
    refine g_iload_n hE dX8_fitting_12 rfl ?_
    refine g_iconst hE (1) dX8_fitting_13 (by decide) ?_
    refine g_icmp_ne 29 hE dX8_fitting_14 (by decide) (fun h16 => ?_) (fun h16 => ?_)
    · replace hf := it_f hf h16
      refine g_iconst hE (0) dX8_fitting_29 (by decide) ?_
      obtain ⟨rfl, rfl⟩ := so2 hf
      exact hJ15
    · replace hf := it_t hf h16
      refine g_aload_n hE dX8_fitting_17 rfl ?_
      refine g_iload_n hE dX8_fitting_18 rfl ?_
      obtain ⟨r19, z18, hc17, hf⟩ := b2_of hf
      refine g_callV1r hE mv_X8_isVirtue kM_0 rfl wm_RX8_126 (by decide) (Nat.le_of_ble_eq_true rfl) dX8_fitting_19 (c_X8_isVirtue hc17) ?_
      refine g_if_eq 29 hE dX8_fitting_22 (by decide) (fun h20 => ?_) (fun h20 => ?_)
      · replace hf := it_f hf (fun q => q h20)
        refine g_iconst hE (0) dX8_fitting_29 (by decide) ?_
        obtain ⟨rfl, rfl⟩ := so2 hf
        exact hJ15
      · replace hf := it_t hf h20
        refine g_iconst hE (1) dX8_fitting_25 (by decide) ?_
        refine g_goto 30 hE dX8_fitting_26 (by decide) ?_
        obtain ⟨rfl, rfl⟩ := so2 hf
        exact hJ15
  · replace hf := it_t hf h11
    refine g_aload_n hE dX8_fitting_4 rfl ?_
    refine g_iload_n hE dX8_fitting_5 rfl ?_
    obtain ⟨r23, z22, hc21, hf⟩ := b2_of hf
    refine g_callV1r hE mv_X8_isClaimant kM_0 rfl wm_RX8_129 (by decide) (Nat.le_of_ble_eq_true rfl) dX8_fitting_6 (c_X8_isClaimant hc21) ?_
    refine g_goto 30 hE dX8_fitting_9 (by decide) ?_
    obtain ⟨rfl, rfl⟩ := so2 hf
    exact hJ4
set_option maxHeartbeats 4000000 in
set_option maxRecDepth 100000 in
theorem c_X8_laysMatch {l : Launch} {w : WC} {z : Sg} {z0 : Sg} (hf : f_X8_laysMatch z = some z0) : CT true l iX8_laysMatch w [.ref 0] z none z0 := by
  refine ct_of 5 (lv := [some (.ref 0), none, none, none, none, none]) (by decide +kernel) rfl (Nat.le_of_ble_eq_true rfl) rfl (fun M hl hw hE => ?_)
  subst hl
  subst hw
  unfold f_X8_laysMatch at hf
  refine g_aload_n hE dX8_laysMatch_0 rfl ?_
  obtain ⟨z2, hc1, hf⟩ := b1_of hf
  refine g_callV0v hE mv_X8_reads kM_0 rfl wm_RX8_123 (by decide) (Nat.le_of_ble_eq_true rfl) dX8_laysMatch_1 (c_X8_reads hc1) ?_
  refine g_aload_n hE dX8_laysMatch_4 rfl ?_
  refine gtX8_2 hE kM_0 wf_RX8_106 dX8_laysMatch_5 ?_
  refine g_iconst hE (1) dX8_laysMatch_8 (by decide) ?_
  refine g_isub hE dX8_laysMatch_9 ?_
  refine g_istore_n [some _, some _, none, none, none, none] hE dX8_laysMatch_10 (by decide) rfl ?_
  obtain ⟨z10, hx8, hf⟩ := b1_of hf
  have hJ9 : G true iX8_laysMatch M (none, z0) 174 [some (.ref 0), none, none, none, none, none] [] z10 := by
    refine g_iconst hE (0) dX8_laysMatch_174 (by decide) ?_
    refine g_istore_n [some _, some _, none, none, none, none] hE dX8_laysMatch_175 (by decide) rfl ?_
    refine g_iconst hE (0) dX8_laysMatch_176 (by decide) ?_
    refine g_istore_n [some _, some _, some _, none, none, none] hE dX8_laysMatch_177 (by decide) rfl ?_
    obtain ⟨set_19, z20, hx17, hf⟩ := b2_of hf
    have hJ18 : G true iX8_laysMatch M (none, z0) 342 [some (.ref 0), some (.int set_19), none, none, none, none] [] z20 := by
      obtain rfl := so1 hf
      exact g_ret hE rfl dX8_laysMatch_342
    clear hf
    have hl14 : ∀ (n16 : Nat) (set_11 : Int32) (v_12 : Int32) (z13 : Sg), f_X8_laysMatch_lp4  n16 set_11 v_12 z13 = some (set_19, z20) → G true iX8_laysMatch M (none, z0) 178 [some (.ref 0), some (.int set_11), some (.int v_12), none, none, none] [] z13 := by
      intro n16
      induction n16 with
      | zero => intro set_11 v_12 z13 hf; cases hf
      | succ n16 ih15 =>
        intro set_11 v_12 z13 hf
        rw [f_X8_laysMatch_lp4] at hf
        refine g_iload_n hE dX8_laysMatch_178 rfl ?_
        refine g_bipush hE (8) dX8_laysMatch_179 (by decide) ?_
        refine g_icmp_ge 342 hE dX8_laysMatch_181 (by decide) (fun h21 => ?_) (fun h21 => ?_)
        · replace hf := it_f hf (cv_ngt h21)
          obtain ⟨rfl, rfl⟩ := so2 hf
          exact g_wk [true, true, false, false, false, false] rfl hJ18
        · replace hf := it_t hf (cv_gt h21)
          refine g_aload_n hE dX8_laysMatch_184 rfl ?_
          refine gtX8_24 hE kM_0 wf_RX8_55 dX8_laysMatch_185 ?_
          refine g_iload_n hE dX8_laysMatch_188 rfl ?_
          refine g_iconst hE (-1) dX8_laysMatch_189 (by decide) ?_
          obtain ⟨h22, hf⟩ := ck_of hf
          refine g_iast hE kM_16 h22 dX8_laysMatch_190 ?_
          refine g_aload_n hE dX8_laysMatch_191 rfl ?_
          refine gtX8_5 hE kM_0 wf_RX8_109 dX8_laysMatch_192 ?_
          refine g_iconst hE (1) dX8_laysMatch_195 (by decide) ?_
          refine g_isub hE dX8_laysMatch_196 ?_
          refine g_istore_n [some _, some _, some _, some _, none, none] hE dX8_laysMatch_197 (by decide) rfl ?_
          obtain ⟨z30, hx28, hf⟩ := b1_of hf
          have hJ29 : G true iX8_laysMatch M (none, z0) 311 [some (.ref 0), some (.int set_11), some (.int v_12), none, none, none] [] z30 := by
            refine g_iload_n hE dX8_laysMatch_311 rfl ?_
            obtain ⟨x31, hx32, hf⟩ := b1_of hf
            have hJ33 : G true iX8_laysMatch M (none, z0) 334 [some (.ref 0), some (.int set_11), some (.int v_12), none, none, none] [.int x31, .int set_11] z30 := by
              refine g_ior hE dX8_laysMatch_334 ?_
              refine g_istore_n [some _, some _, some _, none, none, none] hE dX8_laysMatch_335 (by decide) rfl ?_
              refine g_iinc [some _, some _, some _, none, none, none] hE (v_12 + (1 : Int32)) dX8_laysMatch_336 rfl rfl (by decide) rfl ?_
              refine g_goto 178 hE dX8_laysMatch_339 (by decide) ?_
              exact (ih15 _ _ _ hf)
            replace hf := hx32
            clear hx32
            refine g_aload_n hE dX8_laysMatch_312 rfl ?_
            refine gtX8_24 hE kM_0 wf_RX8_55 dX8_laysMatch_313 ?_
            refine g_iload_n hE dX8_laysMatch_316 rfl ?_
            obtain ⟨h34, hf⟩ := ck_of hf
            refine g_iald hE kM_16 h34 dX8_laysMatch_317 ?_
            refine g_iconst hE (-1) dX8_laysMatch_318 (by decide) ?_
            refine g_icmp_ne 326 hE dX8_laysMatch_319 (by decide) (fun h35 => ?_) (fun h35 => ?_)
            · replace hf := it_f hf h35
              refine g_iconst hE (1) dX8_laysMatch_326 (by decide) ?_
              refine g_aload_n hE dX8_laysMatch_327 rfl ?_
              refine gtX8_24 hE kM_0 wf_RX8_55 dX8_laysMatch_328 ?_
              refine g_iload_n hE dX8_laysMatch_331 rfl ?_
              obtain ⟨h36, hf⟩ := ck_of hf
              refine g_iald hE kM_16 h36 dX8_laysMatch_332 ?_
              refine g_ishl hE dX8_laysMatch_333 ?_
              obtain rfl := so1 hf
              exact hJ33
            · replace hf := it_t hf h35
              refine g_iconst hE (0) dX8_laysMatch_322 (by decide) ?_
              refine g_goto 334 hE dX8_laysMatch_323 (by decide) ?_
              obtain rfl := so1 hf
              exact hJ33
          clear hf
          have hl25 : ∀ (n27 : Nat) (c_23 : Int32) (z24 : Sg), f_X8_laysMatch_lp5 set_11 v_12 n27 c_23 z24 = some z30 → G true iX8_laysMatch M (none, z0) 198 [some (.ref 0), some (.int set_11), some (.int v_12), some (.int c_23), none, none] [] z24 := by
            intro n27
            induction n27 with
            | zero => intro c_23 z24 hf; cases hf
            | succ n27 ih26 =>
              intro c_23 z24 hf
              rw [f_X8_laysMatch_lp5] at hf
              obtain ⟨q37, hx38, hf⟩ := b1_of hf
              have hT39 : q37 = true → G true iX8_laysMatch M (none, z0) 210 [some (.ref 0), some (.int set_11), some (.int v_12), some (.int c_23), none, none] [] z24 := by
                intro hq41
                replace hf := it_t hf hq41
                obtain ⟨z44, hx42, hf⟩ := b1_of hf
                have hJ43 : G true iX8_laysMatch M (none, z0) 305 [some (.ref 0), some (.int set_11), some (.int v_12), some (.int c_23), none, none] [] z44 := by
                  refine g_iinc [some _, some _, some _, some _, none, none] hE (c_23 + (-1 : Int32)) dX8_laysMatch_305 rfl rfl (by decide) rfl ?_
                  refine g_goto 198 hE dX8_laysMatch_308 (by decide) ?_
                  exact (ih26 _ _ hf)
                replace hf := hx42
                clear hx42
                obtain ⟨q45, hx46, hf⟩ := b1_of hf
                have hT47 : q45 = true → G true iX8_laysMatch M (none, z0) 227 [some (.ref 0), some (.int set_11), some (.int v_12), some (.int c_23), none, none] [] z24 := by
                  intro hq49
                  replace hf := it_t hf hq49
                  refine g_sipush hE (1000) dX8_laysMatch_227 (by decide) ?_
                  refine g_aload_n hE dX8_laysMatch_230 rfl ?_
                  refine gtX8_4 hE kM_0 wf_RX8_19 dX8_laysMatch_231 ?_
                  refine g_iload_n hE dX8_laysMatch_234 rfl ?_
                  obtain ⟨h50, hf⟩ := ck_of hf
                  refine g_iald hE kM_4 h50 dX8_laysMatch_235 ?_
                  refine g_iadd hE dX8_laysMatch_236 ?_
                  obtain ⟨x51, hx52, hf⟩ := b1_of hf
                  have hJ53 : G true iX8_laysMatch M (none, z0) 269 [some (.ref 0), some (.int set_11), some (.int v_12), some (.int c_23), none, none] [.int x51, .int ((1000 : Int32) + (rI z24 4 (ix v_12)))] z24 := by
                    refine g_iadd hE dX8_laysMatch_269 ?_
                    refine g_istore [some _, some _, some _, some _, some _, none] hE dX8_laysMatch_270 (by decide) rfl ?_
                    refine g_aload_n hE dX8_laysMatch_272 rfl ?_
                    refine gtX8_24 hE kM_0 wf_RX8_55 dX8_laysMatch_273 ?_
                    refine g_iload_n hE dX8_laysMatch_276 rfl ?_
                    obtain ⟨x54, hx55, hf⟩ := b1_of hf
                    have hJ56 : G true iX8_laysMatch M (none, z0) 304 [some (.ref 0), some (.int set_11), some (.int v_12), some (.int c_23), some (.int (((1000 : Int32) + (rI z24 4 (ix v_12))) + x51)), none] [.int x54, .int v_12, .ref 16] z24 := by
                      obtain ⟨h57, hf⟩ := ck_of hf
                      refine g_iast hE kM_16 h57 dX8_laysMatch_304 ?_
                      refine g_wk [true, true, true, true, false, false] rfl ?_
                      obtain rfl := so1 hf
                      exact hJ43
                    replace hf := hx55
                    clear hx55
                    refine g_iload hE dX8_laysMatch_277 rfl ?_
                    refine g_aload_n hE dX8_laysMatch_279 rfl ?_
                    refine gtX8_23 hE kM_0 wf_RX8_52 dX8_laysMatch_280 ?_
                    refine g_sipush hE (256) dX8_laysMatch_283 (by decide) ?_
                    refine g_iload_n hE dX8_laysMatch_286 rfl ?_
                    refine g_imul hE dX8_laysMatch_287 ?_
                    refine g_iload_n hE dX8_laysMatch_288 rfl ?_
                    refine g_iadd hE dX8_laysMatch_289 ?_
                    obtain ⟨h58, hf⟩ := ck_of hf
                    refine g_iald hE kM_15 h58 dX8_laysMatch_290 ?_
                    refine g_icmp_ne 298 hE dX8_laysMatch_291 (by decide) (fun h59 => ?_) (fun h59 => ?_)
                    · replace hf := it_f hf h59
                      refine g_aload_n hE dX8_laysMatch_298 rfl ?_
                      refine gtX8_24 hE kM_0 wf_RX8_55 dX8_laysMatch_299 ?_
                      refine g_iload_n hE dX8_laysMatch_302 rfl ?_
                      obtain ⟨h60, hf⟩ := ck_of hf
                      refine g_iald hE kM_16 h60 dX8_laysMatch_303 ?_
                      obtain rfl := so1 hf
                      exact hJ56
                    · replace hf := it_t hf h59
                      refine g_iload_n hE dX8_laysMatch_294 rfl ?_
                      refine g_goto 304 hE dX8_laysMatch_295 (by decide) ?_
                      obtain rfl := so1 hf
                      exact hJ56
                  replace hf := hx52
                  clear hx52
                  refine g_iload_n hE dX8_laysMatch_237 rfl ?_
                  refine g_aload_n hE dX8_laysMatch_238 rfl ?_
                  refine gtX8_2 hE kM_0 wf_RX8_106 dX8_laysMatch_239 ?_
                  refine g_iconst hE (1) dX8_laysMatch_242 (by decide) ?_
                  refine g_isub hE dX8_laysMatch_243 ?_
                  refine g_icmp_ne 251 hE dX8_laysMatch_244 (by decide) (fun h61 => ?_) (fun h61 => ?_)
                  · replace hf := it_f hf h61
                    refine g_aload_n hE dX8_laysMatch_251 rfl ?_
                    refine gtX8_23 hE kM_0 wf_RX8_52 dX8_laysMatch_252 ?_
                    refine g_sipush hE (256) dX8_laysMatch_255 (by decide) ?_
                    refine g_iload_n hE dX8_laysMatch_258 rfl ?_
                    refine g_iconst hE (1) dX8_laysMatch_259 (by decide) ?_
                    refine g_iadd hE dX8_laysMatch_260 ?_
                    refine g_imul hE dX8_laysMatch_261 ?_
                    refine g_iload_n hE dX8_laysMatch_262 rfl ?_
                    refine g_iconst hE (1) dX8_laysMatch_263 (by decide) ?_
                    refine g_iload_n hE dX8_laysMatch_264 rfl ?_
                    refine g_ishl hE dX8_laysMatch_265 ?_
                    refine g_ior hE dX8_laysMatch_266 ?_
                    refine g_iadd hE dX8_laysMatch_267 ?_
                    obtain ⟨h62, hf⟩ := ck_of hf
                    refine g_iald hE kM_15 h62 dX8_laysMatch_268 ?_
                    obtain rfl := so1 hf
                    exact hJ53
                  · replace hf := it_t hf h61
                    refine g_iconst hE (0) dX8_laysMatch_247 (by decide) ?_
                    refine g_goto 269 hE dX8_laysMatch_248 (by decide) ?_
                    obtain rfl := so1 hf
                    exact hJ53
                have hF48 : q45 = false → G true iX8_laysMatch M (none, z0) 305 [some (.ref 0), some (.int set_11), some (.int v_12), some (.int c_23), none, none] [] z24 := by
                  intro hq49
                  replace hf := it_f hf (by rw [hq49]; decide)
                  obtain rfl := so1 hf
                  exact hJ43
                replace hf := hx46
                clear hx46
                refine g_iload_n hE dX8_laysMatch_210 rfl ?_
                refine g_iload_n hE dX8_laysMatch_211 rfl ?_
                obtain ⟨r64, hc63, hf⟩ := b1_of hf
                refine g_callS2r hE ms_X8_isIn wm_RX8_204 (by decide) (Nat.le_of_ble_eq_true rfl) dX8_laysMatch_212 (c_X8_isIn hc63) ?_
                refine g_if_ne 305 hE dX8_laysMatch_215 (by decide) (fun h65 => ?_) (fun h65 => ?_)
                · replace hf := it_t hf h65
                  obtain rfl := so1 hf
                  exact hF48 rfl
                · replace hf := it_f hf (fun q => q h65)
                  refine g_aload_n hE dX8_laysMatch_218 rfl ?_
                  refine g_iload_n hE dX8_laysMatch_219 rfl ?_
                  refine g_iload_n hE dX8_laysMatch_220 rfl ?_
                  obtain ⟨r67, hc66, hf⟩ := b1_of hf
                  refine g_callV2r hE mv_X8_fits kM_0 rfl wm_RX8_160 (by decide) (Nat.le_of_ble_eq_true rfl) dX8_laysMatch_221 (c_X8_fits hc66) ?_
                  refine g_if_eq 305 hE dX8_laysMatch_224 (by decide) (fun h68 => ?_) (fun h68 => ?_)
                  · replace hf := it_f hf (fun q => q h68)
                    obtain rfl := so1 hf
                    exact hF48 rfl
                  · replace hf := it_t hf h68
                    obtain rfl := so1 hf
                    exact hT47 rfl
              have hF40 : q37 = false → G true iX8_laysMatch M (none, z0) 311 [some (.ref 0), some (.int set_11), some (.int v_12), some (.int c_23), none, none] [] z24 := by
                intro hq41
                replace hf := it_f hf (by rw [hq41]; decide)
                obtain rfl := so1 hf
                exact g_wk [true, true, true, false, false, false] rfl hJ29
              replace hf := hx38
              clear hx38
              refine g_iload_n hE dX8_laysMatch_198 rfl ?_
              refine g_if_lt 311 hE dX8_laysMatch_199 (by decide) (fun h69 => ?_) (fun h69 => ?_)
              · replace hf := it_f hf (cv_nge h69)
                obtain rfl := so1 hf
                exact hF40 rfl
              · replace hf := it_t hf (cv_ge h69)
                refine g_iload_n hE dX8_laysMatch_202 rfl ?_
                refine g_aload_n hE dX8_laysMatch_203 rfl ?_
                refine gtX8_2 hE kM_0 wf_RX8_106 dX8_laysMatch_204 ?_
                refine g_icmp_ge 311 hE dX8_laysMatch_207 (by decide) (fun h70 => ?_) (fun h70 => ?_)
                · replace hf := it_f hf (cv_ngt h70)
                  obtain rfl := so1 hf
                  exact hF40 rfl
                · replace hf := it_t hf (cv_gt h70)
                  obtain rfl := so1 hf
                  exact hT39 rfl
          exact hl25 _ _ _ hx28
    exact hl14 _ _ _ _ hx17
  clear hf
  have hl5 : ∀ (n7 : Nat) (v_3 : Int32) (z4 : Sg), f_X8_laysMatch_lp1  n7 v_3 z4 = some z10 → G true iX8_laysMatch M (none, z0) 11 [some (.ref 0), some (.int v_3), none, none, none, none] [] z4 := by
    intro n7
    induction n7 with
    | zero => intro v_3 z4 hf; cases hf
    | succ n7 ih6 =>
      intro v_3 z4 hf
      rw [f_X8_laysMatch_lp1] at hf
      refine g_iload_n hE dX8_laysMatch_11 rfl ?_
      refine g_if_lt 174 hE dX8_laysMatch_12 (by decide) (fun h71 => ?_) (fun h71 => ?_)
      · replace hf := it_f hf (cv_nge h71)
        obtain rfl := so1 hf
        exact g_wk [true, false, false, false, false, false] rfl hJ9
      · replace hf := it_t hf (cv_ge h71)
        refine g_iconst hE (0) dX8_laysMatch_15 (by decide) ?_
        refine g_istore_n [some _, some _, some _, none, none, none] hE dX8_laysMatch_16 (by decide) rfl ?_
        obtain ⟨z79, hx77, hf⟩ := b1_of hf
        have hJ78 : G true iX8_laysMatch M (none, z0) 168 [some (.ref 0), some (.int v_3), none, none, none, none] [] z79 := by
          refine g_iinc [some _, some _, none, none, none, none] hE (v_3 + (-1 : Int32)) dX8_laysMatch_168 rfl rfl (by decide) rfl ?_
          refine g_goto 11 hE dX8_laysMatch_171 (by decide) ?_
          exact (ih6 _ _ hf)
        clear hf
        have hl74 : ∀ (n76 : Nat) (set_72 : Int32) (z73 : Sg), f_X8_laysMatch_lp2 v_3 n76 set_72 z73 = some z79 → G true iX8_laysMatch M (none, z0) 17 [some (.ref 0), some (.int v_3), some (.int set_72), none, none, none] [] z73 := by
          intro n76
          induction n76 with
          | zero => intro set_72 z73 hf; cases hf
          | succ n76 ih75 =>
            intro set_72 z73 hf
            rw [f_X8_laysMatch_lp2] at hf
            refine g_iload_n hE dX8_laysMatch_17 rfl ?_
            refine g_sipush hE (256) dX8_laysMatch_18 (by decide) ?_
            refine g_icmp_ge 168 hE dX8_laysMatch_21 (by decide) (fun h80 => ?_) (fun h80 => ?_)
            · replace hf := it_f hf (cv_ngt h80)
              obtain rfl := so1 hf
              exact g_wk [true, true, false, false, false, false] rfl hJ78
            · replace hf := it_t hf (cv_gt h80)
              obtain ⟨x81, hx82, hf⟩ := b1_of hf
              have hJ83 : G true iX8_laysMatch M (none, z0) 52 [some (.ref 0), some (.int v_3), some (.int set_72), none, none, none] [.int x81] z73 := by
                refine g_istore_n [some _, some _, some _, some _, none, none] hE dX8_laysMatch_52 (by decide) rfl ?_
                refine g_iconst hE (0) dX8_laysMatch_53 (by decide) ?_
                refine g_istore [some _, some _, some _, some _, some _, none] hE dX8_laysMatch_54 (by decide) rfl ?_
                obtain ⟨best_91, hx89, hf⟩ := b1_of hf
                have hJ90 : G true iX8_laysMatch M (none, z0) 149 [some (.ref 0), some (.int v_3), some (.int set_72), some (.int best_91), none, none] [] z73 := by
                  refine g_aload_n hE dX8_laysMatch_149 rfl ?_
                  refine gtX8_23 hE kM_0 wf_RX8_52 dX8_laysMatch_150 ?_
                  refine g_sipush hE (256) dX8_laysMatch_153 (by decide) ?_
                  refine g_iload_n hE dX8_laysMatch_156 rfl ?_
                  refine g_imul hE dX8_laysMatch_157 ?_
                  refine g_iload_n hE dX8_laysMatch_158 rfl ?_
                  refine g_iadd hE dX8_laysMatch_159 ?_
                  refine g_iload_n hE dX8_laysMatch_160 rfl ?_
                  obtain ⟨h92, hf⟩ := ck_of hf
                  refine g_iast hE kM_15 h92 dX8_laysMatch_161 ?_
                  refine g_wk [true, true, true, false, false, false] rfl ?_
                  refine g_iinc [some _, some _, some _, none, none, none] hE (set_72 + (1 : Int32)) dX8_laysMatch_162 rfl rfl (by decide) rfl ?_
                  refine g_goto 17 hE dX8_laysMatch_165 (by decide) ?_
                  exact (ih75 _ _ hf)
                clear hf
                have hl86 : ∀ (n88 : Nat) (best_84 : Int32) (c_85 : Int32), f_X8_laysMatch_lp3 v_3 set_72 z73 n88 best_84 c_85 = some best_91 → G true iX8_laysMatch M (none, z0) 56 [some (.ref 0), some (.int v_3), some (.int set_72), some (.int best_84), some (.int c_85), none] [] z73 := by
                  intro n88
                  induction n88 with
                  | zero => intro best_84 c_85 hf; cases hf
                  | succ n88 ih87 =>
                    intro best_84 c_85 hf
                    rw [f_X8_laysMatch_lp3] at hf
                    refine g_iload hE dX8_laysMatch_56 rfl ?_
                    refine g_aload_n hE dX8_laysMatch_58 rfl ?_
                    refine gtX8_5 hE kM_0 wf_RX8_109 dX8_laysMatch_59 ?_
                    refine g_icmp_ge 149 hE dX8_laysMatch_62 (by decide) (fun h93 => ?_) (fun h93 => ?_)
                    · replace hf := it_f hf (cv_ngt h93)
                      obtain rfl := so1 hf
                      exact g_wk [true, true, true, true, false, false] rfl hJ90
                    · replace hf := it_t hf (cv_gt h93)
                      obtain ⟨best_96, hx94, hf⟩ := b1_of hf
                      have hJ95 : G true iX8_laysMatch M (none, z0) 143 [some (.ref 0), some (.int v_3), some (.int set_72), some (.int best_96), some (.int c_85), none] [] z73 := by
                        refine g_iinc [some _, some _, some _, some _, some _, none] hE (c_85 + (1 : Int32)) dX8_laysMatch_143 rfl rfl (by decide) rfl ?_
                        refine g_goto 56 hE dX8_laysMatch_146 (by decide) ?_
                        exact (ih87 _ _ hf)
                      replace hf := hx94
                      clear hx94
                      obtain ⟨q97, hx98, hf⟩ := b1_of hf
                      have hT99 : q97 = true → G true iX8_laysMatch M (none, z0) 84 [some (.ref 0), some (.int v_3), some (.int set_72), some (.int best_84), some (.int c_85), none] [] z73 := by
                        intro hq101
                        replace hf := it_t hf hq101
                        refine g_sipush hE (1000) dX8_laysMatch_84 (by decide) ?_
                        refine g_aload_n hE dX8_laysMatch_87 rfl ?_
                        refine gtX8_4 hE kM_0 wf_RX8_19 dX8_laysMatch_88 ?_
                        refine g_iload_n hE dX8_laysMatch_91 rfl ?_
                        obtain ⟨h102, hf⟩ := ck_of hf
                        refine g_iald hE kM_4 h102 dX8_laysMatch_92 ?_
                        refine g_iadd hE dX8_laysMatch_93 ?_
                        obtain ⟨x103, hx104, hf⟩ := b1_of hf
                        have hJ105 : G true iX8_laysMatch M (none, z0) 127 [some (.ref 0), some (.int v_3), some (.int set_72), some (.int best_84), some (.int c_85), none] [.int x103, .int ((1000 : Int32) + (rI z73 4 (ix v_3)))] z73 := by
                          refine g_iadd hE dX8_laysMatch_127 ?_
                          refine g_istore [some _, some _, some _, some _, some _, some _] hE dX8_laysMatch_128 (by decide) rfl ?_
                          obtain ⟨x106, hx107, hf⟩ := b1_of hf
                          have hJ108 : G true iX8_laysMatch M (none, z0) 142 [some (.ref 0), some (.int v_3), some (.int set_72), some (.int best_84), some (.int c_85), some (.int (((1000 : Int32) + (rI z73 4 (ix v_3))) + x103))] [.int x106] z73 := by
                            refine g_istore_n [some _, some _, some _, some _, some _, some _] hE dX8_laysMatch_142 (by decide) rfl ?_
                            refine g_wk [true, true, true, true, true, false] rfl ?_
                            obtain rfl := so1 hf
                            exact hJ95
                          replace hf := hx107
                          clear hx107
                          refine g_iload hE dX8_laysMatch_130 rfl ?_
                          refine g_iload_n hE dX8_laysMatch_132 rfl ?_
                          refine g_icmp_le 141 hE dX8_laysMatch_133 (by decide) (fun h109 => ?_) (fun h109 => ?_)
                          · replace hf := it_f hf (cv_ngt h109)
                            refine g_iload_n hE dX8_laysMatch_141 rfl ?_
                            obtain rfl := so1 hf
                            exact hJ108
                          · replace hf := it_t hf (cv_gt h109)
                            refine g_iload hE dX8_laysMatch_136 rfl ?_
                            refine g_goto 142 hE dX8_laysMatch_138 (by decide) ?_
                            obtain rfl := so1 hf
                            exact hJ108
                        replace hf := hx104
                        clear hx104
                        refine g_iload_n hE dX8_laysMatch_94 rfl ?_
                        refine g_aload_n hE dX8_laysMatch_95 rfl ?_
                        refine gtX8_2 hE kM_0 wf_RX8_106 dX8_laysMatch_96 ?_
                        refine g_iconst hE (1) dX8_laysMatch_99 (by decide) ?_
                        refine g_isub hE dX8_laysMatch_100 ?_
                        refine g_icmp_ne 108 hE dX8_laysMatch_101 (by decide) (fun h110 => ?_) (fun h110 => ?_)
                        · replace hf := it_f hf h110
                          refine g_aload_n hE dX8_laysMatch_108 rfl ?_
                          refine gtX8_23 hE kM_0 wf_RX8_52 dX8_laysMatch_109 ?_
                          refine g_sipush hE (256) dX8_laysMatch_112 (by decide) ?_
                          refine g_iload_n hE dX8_laysMatch_115 rfl ?_
                          refine g_iconst hE (1) dX8_laysMatch_116 (by decide) ?_
                          refine g_iadd hE dX8_laysMatch_117 ?_
                          refine g_imul hE dX8_laysMatch_118 ?_
                          refine g_iload_n hE dX8_laysMatch_119 rfl ?_
                          refine g_iconst hE (1) dX8_laysMatch_120 (by decide) ?_
                          refine g_iload hE dX8_laysMatch_121 rfl ?_
                          refine g_ishl hE dX8_laysMatch_123 ?_
                          refine g_ior hE dX8_laysMatch_124 ?_
                          refine g_iadd hE dX8_laysMatch_125 ?_
                          obtain ⟨h111, hf⟩ := ck_of hf
                          refine g_iald hE kM_15 h111 dX8_laysMatch_126 ?_
                          obtain rfl := so1 hf
                          exact hJ105
                        · replace hf := it_t hf h110
                          refine g_iconst hE (0) dX8_laysMatch_104 (by decide) ?_
                          refine g_goto 127 hE dX8_laysMatch_105 (by decide) ?_
                          obtain rfl := so1 hf
                          exact hJ105
                      have hF100 : q97 = false → G true iX8_laysMatch M (none, z0) 143 [some (.ref 0), some (.int v_3), some (.int set_72), some (.int best_84), some (.int c_85), none] [] z73 := by
                        intro hq101
                        replace hf := it_f hf (by rw [hq101]; decide)
                        obtain rfl := so1 hf
                        exact hJ95
                      replace hf := hx98
                      clear hx98
                      refine g_iload_n hE dX8_laysMatch_65 rfl ?_
                      refine g_iload hE dX8_laysMatch_66 rfl ?_
                      obtain ⟨r113, hc112, hf⟩ := b1_of hf
                      refine g_callS2r hE ms_X8_isIn wm_RX8_204 (by decide) (Nat.le_of_ble_eq_true rfl) dX8_laysMatch_68 (c_X8_isIn hc112) ?_
                      refine g_if_ne 143 hE dX8_laysMatch_71 (by decide) (fun h114 => ?_) (fun h114 => ?_)
                      · replace hf := it_t hf h114
                        obtain rfl := so1 hf
                        exact hF100 rfl
                      · replace hf := it_f hf (fun q => q h114)
                        refine g_aload_n hE dX8_laysMatch_74 rfl ?_
                        refine g_iload hE dX8_laysMatch_75 rfl ?_
                        refine g_iload_n hE dX8_laysMatch_77 rfl ?_
                        obtain ⟨r116, hc115, hf⟩ := b1_of hf
                        refine g_callV2r hE mv_X8_fits kM_0 rfl wm_RX8_160 (by decide) (Nat.le_of_ble_eq_true rfl) dX8_laysMatch_78 (c_X8_fits hc115) ?_
                        refine g_if_eq 143 hE dX8_laysMatch_81 (by decide) (fun h117 => ?_) (fun h117 => ?_)
                        · replace hf := it_f hf (fun q => q h117)
                          obtain rfl := so1 hf
                          exact hF100 rfl
                        · replace hf := it_t hf h117
                          obtain rfl := so1 hf
                          exact hT99 rfl
                exact hl86 _ _ _ hx89
              replace hf := hx82
              clear hx82
              refine g_iload_n hE dX8_laysMatch_24 rfl ?_
              refine g_aload_n hE dX8_laysMatch_25 rfl ?_
              refine gtX8_2 hE kM_0 wf_RX8_106 dX8_laysMatch_26 ?_
              refine g_iconst hE (1) dX8_laysMatch_29 (by decide) ?_
              refine g_isub hE dX8_laysMatch_30 ?_
              refine g_icmp_ne 38 hE dX8_laysMatch_31 (by decide) (fun h118 => ?_) (fun h118 => ?_)
              · replace hf := it_f hf h118
                refine g_aload_n hE dX8_laysMatch_38 rfl ?_
                refine gtX8_23 hE kM_0 wf_RX8_52 dX8_laysMatch_39 ?_
                refine g_sipush hE (256) dX8_laysMatch_42 (by decide) ?_
                refine g_iload_n hE dX8_laysMatch_45 rfl ?_
                refine g_iconst hE (1) dX8_laysMatch_46 (by decide) ?_
                refine g_iadd hE dX8_laysMatch_47 ?_
                refine g_imul hE dX8_laysMatch_48 ?_
                refine g_iload_n hE dX8_laysMatch_49 rfl ?_
                refine g_iadd hE dX8_laysMatch_50 ?_
                obtain ⟨h119, hf⟩ := ck_of hf
                refine g_iald hE kM_15 h119 dX8_laysMatch_51 ?_
                obtain rfl := so1 hf
                exact hJ83
              · replace hf := it_t hf h118
                refine g_iconst hE (0) dX8_laysMatch_34 (by decide) ?_
                refine g_goto 52 hE dX8_laysMatch_35 (by decide) ?_
                obtain rfl := so1 hf
                exact hJ83
        exact hl74 _ _ _ hx77
  exact hl5 _ _ _ hx8
