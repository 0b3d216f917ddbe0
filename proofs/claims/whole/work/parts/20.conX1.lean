/-! CONTRACTS. Printed by wip/whole/gen/mkall.py out of the Java text. -/
set_option maxHeartbeats 4000000 in
set_option maxRecDepth 100000 in
theorem c_X1_faultPlace {l : Launch} {w : WC} {t : Nat} {z : Sg} {r0 : Int32} (hkt : kd false t = KX1) (hf : f_X1_faultPlace t z = some r0) : CT false l iX1_faultPlace w [.ref t] z (some (.int r0)) z := by
  refine ct_of 0 (lv := [some (.ref t)]) (by decide +kernel) rfl (Nat.le_of_ble_eq_true rfl) rfl (fun M hl hw hE => ?_)
  subst hl
  subst hw
  unfold f_X1_faultPlace at hf
  refine g_aload_n hE dX1_faultPlace_0 rfl ?_
  refine gtX1_6 hE hkt wf_RX1_21 dX1_faultPlace_1 ?_
  refine g_iconst hE (-1) dX1_faultPlace_4 (by decide) ?_
  refine g_icmp_eq 13 hE dX1_faultPlace_5 (by decide) (fun h1 => ?_) (fun h1 => ?_)
  · replace hf := it_f hf (fun q => q h1)
    obtain ⟨x2, hx3, hf⟩ := b1_of hf
    have hJ4 : G false iX1_faultPlace M (some (.int r0), z) 39 [some (.ref t)] [.int x2] z := by
      obtain rfl := so1 hf
      exact g_iret hE rfl dX1_faultPlace_39
    replace hf := hx3
    clear hx3
    obtain ⟨q5, hx6, hf⟩ := b1_of hf
    have hT7 : q5 = true → G false iX1_faultPlace M (some (.int r0), z) 31 [some (.ref t)] [] z := by
      intro hq9
      replace hf := it_t hf hq9
      refine g_iconst hE (-1) dX1_faultPlace_31 (by decide) ?_
      refine g_goto 39 hE dX1_faultPlace_32 (by decide) ?_
      obtain rfl := so1 hf
      exact hJ4
    have hF8 : q5 = false → G false iX1_faultPlace M (some (.int r0), z) 35 [some (.ref t)] [] z := by
      intro hq9
      replace hf := it_f hf (by rw [hq9]; decide)
      refine g_aload_n hE dX1_faultPlace_35 rfl ?_
      refine gtX1_4 hE hkt wf_RX1_33 dX1_faultPlace_36 ?_
      obtain rfl := so1 hf
      exact hJ4
    replace hf := hx6
    clear hx6
    refine g_aload_n hE dX1_faultPlace_13 rfl ?_
    refine gtX1_4 hE hkt wf_RX1_33 dX1_faultPlace_14 ?_
    refine g_if_eq 31 hE dX1_faultPlace_17 (by decide) (fun h10 => ?_) (fun h10 => ?_)
    · replace hf := it_t hf h10
      obtain rfl := so1 hf
      exact hT7 rfl
    · replace hf := it_f hf h10
      refine g_aload_n hE dX1_faultPlace_20 rfl ?_
      refine gtX1_4 hE hkt wf_RX1_33 dX1_faultPlace_21 ?_
      refine g_bipush hE (6) dX1_faultPlace_24 (by decide) ?_
      refine g_irem hE dX1_faultPlace_26 (by decide) ?_
      refine g_iconst hE (5) dX1_faultPlace_27 (by decide) ?_
      refine g_icmp_ne 35 hE dX1_faultPlace_28 (by decide) (fun h11 => ?_) (fun h11 => ?_)
      · replace hf := it_f hf h11
        obtain rfl := so1 hf
        exact hF8 rfl
      · replace hf := it_t hf h11
        obtain rfl := so1 hf
        exact hT7 rfl
  · replace hf := it_t hf h1
    refine g_aload_n hE dX1_faultPlace_8 rfl ?_
    refine gtX1_6 hE hkt wf_RX1_21 dX1_faultPlace_9 ?_
    obtain rfl := so1 hf
    exact g_iret hE rfl dX1_faultPlace_12
set_option maxHeartbeats 4000000 in
set_option maxRecDepth 100000 in
theorem c_X1_countWhole {l : Launch} {w : WC} {t : Nat} {z : Sg} {z0 : Sg} (hkt : kd false t = KX1) (hf : f_X1_countWhole t z = some z0) : CT false l iX1_countWhole w [.ref t] z none z0 := by
  refine ct_of 0 (lv := [some (.ref t)]) (by decide +kernel) rfl (Nat.le_of_ble_eq_true rfl) rfl (fun M hl hw hE => ?_)
  subst hl
  subst hw
  unfold f_X1_countWhole at hf
  refine g_aload_n hE dX1_countWhole_0 rfl ?_
  obtain ⟨x1, hx2, hf⟩ := b1_of hf
  have hJ3 : G false iX1_countWhole M (none, z0) 22 [some (.ref t)] [.int x1, .ref t] z := by
    refine ptX1_5 hE hkt wf_RX1_39 dX1_countWhole_22 ?_
    obtain rfl := so1 hf
    exact g_ret hE rfl dX1_countWhole_25
  replace hf := hx2
  clear hx2
  refine g_aload_n hE dX1_countWhole_1 rfl ?_
  obtain ⟨r5, hc4, hf⟩ := b1_of hf
  refine g_callV0r hE mv_X1_faultPlace hkt rfl wm_RX1_42 (by decide) (Nat.le_of_ble_eq_true rfl) dX1_countWhole_2 (c_X1_faultPlace hkt hc4) ?_
  refine g_iconst hE (-1) dX1_countWhole_5 (by decide) ?_
  refine g_icmp_ne 21 hE dX1_countWhole_6 (by decide) (fun h6 => ?_) (fun h6 => ?_)
  · replace hf := it_f hf h6
    refine g_iconst hE (0) dX1_countWhole_21 (by decide) ?_
    obtain rfl := so1 hf
    exact hJ3
  · replace hf := it_t hf h6
    refine g_aload_n hE dX1_countWhole_9 rfl ?_
    refine gtX1_4 hE hkt wf_RX1_33 dX1_countWhole_10 ?_
    refine g_iconst hE (1) dX1_countWhole_13 (by decide) ?_
    refine g_iadd hE dX1_countWhole_14 ?_
    refine g_bipush hE (6) dX1_countWhole_15 (by decide) ?_
    refine g_idiv hE dX1_countWhole_17 (by decide) ?_
    refine g_goto 22 hE dX1_countWhole_18 (by decide) ?_
    obtain rfl := so1 hf
    exact hJ3
set_option maxHeartbeats 4000000 in
set_option maxRecDepth 100000 in
theorem c_X1_takesFigure {l : Launch} {w : WC} {t : Nat} {entry_ : Int32} {b_ : Int32} {z : Sg} {r0 : Int32} {z0 : Sg} (hkt : kd false t = KX1) (hf : f_X1_takesFigure t entry_ b_ z = some (r0, z0)) : CT false l iX1_takesFigure w [.ref t, .int entry_, .int b_] z (some (.int r0)) z0 := by
  refine ct_of 0 (lv := [some (.ref t), some (.int entry_), some (.int b_)]) (by decide +kernel) rfl (Nat.le_of_ble_eq_true rfl) rfl (fun M hl hw hE => ?_)
  subst hl
  subst hw
  unfold f_X1_takesFigure at hf
  refine g_aload_n hE dX1_takesFigure_0 rfl ?_
  refine gtX1_3 hE hkt wf_RX1_18 dX1_takesFigure_1 ?_
  refine g_iload_n hE dX1_takesFigure_4 rfl ?_
  refine g_iload_n hE dX1_takesFigure_5 rfl ?_
  refine g_bipush hE (48) dX1_takesFigure_6 (by decide) ?_
  refine g_isub hE dX1_takesFigure_8 ?_
  obtain ⟨h1, hf⟩ := ck_of hf
  refine g_iast hE (rlX1_3 hkt) h1 dX1_takesFigure_9 ?_
  obtain ⟨x2, hx3, hf⟩ := b1_of hf
  have hJ4 : G false iX1_takesFigure M (some (.int r0), z0) 27 [some (.ref t), some (.int entry_), some (.int b_)] [.int x2] (wI z (t + 3) (ix entry_) (b_ - (48 : Int32))) := by
    obtain ⟨h5, hf⟩ := ck_of hf
    obtain ⟨rfl, rfl⟩ := so2 hf
    exact g_zret hE rfl (bz_nar h5) dX1_takesFigure_27
  replace hf := hx3
  clear hx3
  refine g_iload_n hE dX1_takesFigure_10 rfl ?_
  refine g_bipush hE (48) dX1_takesFigure_11 (by decide) ?_
  refine g_icmp_lt 26 hE dX1_takesFigure_13 (by decide) (fun h6 => ?_) (fun h6 => ?_)
  · replace hf := it_f hf (cv_nge h6)
    refine g_iconst hE (0) dX1_takesFigure_26 (by decide) ?_
    obtain rfl := so1 hf
    exact hJ4
  · replace hf := it_t hf (cv_ge h6)
    refine g_iload_n hE dX1_takesFigure_16 rfl ?_
    refine g_bipush hE (57) dX1_takesFigure_17 (by decide) ?_
    refine g_icmp_gt 26 hE dX1_takesFigure_19 (by decide) (fun h7 => ?_) (fun h7 => ?_)
    · replace hf := it_f hf (cv_nge h7)
      refine g_iconst hE (0) dX1_takesFigure_26 (by decide) ?_
      obtain rfl := so1 hf
      exact hJ4
    · replace hf := it_t hf (cv_ge h7)
      refine g_iconst hE (1) dX1_takesFigure_22 (by decide) ?_
      refine g_goto 27 hE dX1_takesFigure_23 (by decide) ?_
      obtain rfl := so1 hf
      exact hJ4
set_option maxHeartbeats 4000000 in
set_option maxRecDepth 100000 in
theorem c_X1_takesLetter {l : Launch} {w : WC} {t : Nat} {entry_ : Int32} {bit_ : Int32} {b_ : Int32} {z : Sg} {r0 : Int32} {z0 : Sg} (hkt : kd false t = KX1) (hf : f_X1_takesLetter t entry_ bit_ b_ z = some (r0, z0)) : CT false l iX1_takesLetter w [.ref t, .int entry_, .int bit_, .int b_] z (some (.int r0)) z0 := by
  refine ct_of 0 (lv := [some (.ref t), some (.int entry_), some (.int bit_), some (.int b_)]) (by decide +kernel) rfl (Nat.le_of_ble_eq_true rfl) rfl (fun M hl hw hE => ?_)
  subst hl
  subst hw
  unfold f_X1_takesLetter at hf
  refine g_aload_n hE dX1_takesLetter_0 rfl ?_
  refine gtX1_1 hE hkt wf_RX1_9 dX1_takesLetter_1 ?_
  refine g_iload_n hE dX1_takesLetter_4 rfl ?_
  refine g_dup2 hE dX1_takesLetter_5 rfl rfl ?_
  obtain ⟨h1, hf⟩ := ck_of hf
  refine g_iald hE (rlX1_1 hkt) h1 dX1_takesLetter_6 ?_
  refine g_iload_n hE dX1_takesLetter_7 rfl ?_
  refine g_iconst hE (-1) dX1_takesLetter_8 (by decide) ?_
  refine g_ixor hE dX1_takesLetter_9 ?_
  refine g_iand hE dX1_takesLetter_10 ?_
  obtain ⟨h2, hf⟩ := ck_of hf
  refine g_iast hE (rlX1_1 hkt) h2 dX1_takesLetter_11 ?_
  refine g_aload_n hE dX1_takesLetter_12 rfl ?_
  refine gtX1_2 hE hkt wf_RX1_15 dX1_takesLetter_13 ?_
  refine g_iload_n hE dX1_takesLetter_16 rfl ?_
  refine g_dup2 hE dX1_takesLetter_17 rfl rfl ?_
  obtain ⟨h3, hf⟩ := ck_of hf
  refine g_iald hE (rlX1_2 hkt) h3 dX1_takesLetter_18 ?_
  refine g_iload_n hE dX1_takesLetter_19 rfl ?_
  refine g_iconst hE (-1) dX1_takesLetter_20 (by decide) ?_
  refine g_ixor hE dX1_takesLetter_21 ?_
  refine g_iand hE dX1_takesLetter_22 ?_
  obtain ⟨h4, hf⟩ := ck_of hf
  refine g_iast hE (rlX1_2 hkt) h4 dX1_takesLetter_23 ?_
  refine g_iload_n hE dX1_takesLetter_24 rfl ?_
  refine g_bipush hE (63) dX1_takesLetter_25 (by decide) ?_
  refine g_icmp_ne 35 hE dX1_takesLetter_27 (by decide) (fun h5 => ?_) (fun h5 => ?_)
  · replace hf := it_f hf h5
    refine g_aload_n hE dX1_takesLetter_35 rfl ?_
    refine gtX1_1 hE hkt wf_RX1_9 dX1_takesLetter_36 ?_
    refine g_iload_n hE dX1_takesLetter_39 rfl ?_
    refine g_dup2 hE dX1_takesLetter_40 rfl rfl ?_
    obtain ⟨h6, hf⟩ := ck_of hf
    refine g_iald hE (rlX1_1 hkt) h6 dX1_takesLetter_41 ?_
    refine g_iload_n hE dX1_takesLetter_42 rfl ?_
    refine g_ior hE dX1_takesLetter_43 ?_
    obtain ⟨h7, hf⟩ := ck_of hf
    refine g_iast hE (rlX1_1 hkt) h7 dX1_takesLetter_44 ?_
    obtain ⟨z10, hx8, hf⟩ := b1_of hf
    have hJ9 : G false iX1_takesLetter M (some (.int r0), z0) 61 [some (.ref t), some (.int entry_), some (.int bit_), some (.int b_)] [] z10 := by
      obtain ⟨x11, hx12, hf⟩ := b1_of hf
      have hJ13 : G false iX1_takesLetter M (some (.int r0), z0) 78 [some (.ref t), some (.int entry_), some (.int bit_), some (.int b_)] [.int x11] z10 := by
        obtain ⟨h14, hf⟩ := ck_of hf
        obtain ⟨rfl, rfl⟩ := so2 hf
        exact g_zret hE rfl (bz_nar h14) dX1_takesLetter_78
      replace hf := hx12
      clear hx12
      refine g_iload_n hE dX1_takesLetter_61 rfl ?_
      refine g_bipush hE (104) dX1_takesLetter_62 (by decide) ?_
      refine g_icmp_eq 73 hE dX1_takesLetter_64 (by decide) (fun h15 => ?_) (fun h15 => ?_)
      · replace hf := it_t hf h15
        refine g_iconst hE (1) dX1_takesLetter_73 (by decide) ?_
        refine g_goto 78 hE dX1_takesLetter_74 (by decide) ?_
        obtain rfl := so1 hf
        exact hJ13
      · replace hf := it_f hf h15
        refine g_iload_n hE dX1_takesLetter_67 rfl ?_
        refine g_bipush hE (108) dX1_takesLetter_68 (by decide) ?_
        refine g_icmp_ne 77 hE dX1_takesLetter_70 (by decide) (fun h16 => ?_) (fun h16 => ?_)
        · replace hf := it_f hf h16
          refine g_iconst hE (0) dX1_takesLetter_77 (by decide) ?_
          obtain rfl := so1 hf
          exact hJ13
        · replace hf := it_t hf h16
          refine g_iconst hE (1) dX1_takesLetter_73 (by decide) ?_
          refine g_goto 78 hE dX1_takesLetter_74 (by decide) ?_
          obtain rfl := so1 hf
          exact hJ13
    replace hf := hx8
    clear hx8
    refine g_iload_n hE dX1_takesLetter_45 rfl ?_
    refine g_bipush hE (104) dX1_takesLetter_46 (by decide) ?_
    refine g_icmp_ne 61 hE dX1_takesLetter_48 (by decide) (fun h17 => ?_) (fun h17 => ?_)
    · replace hf := it_f hf h17
      obtain rfl := so1 hf
      exact hJ9
    · replace hf := it_t hf h17
      refine g_aload_n hE dX1_takesLetter_51 rfl ?_
      refine gtX1_2 hE hkt wf_RX1_15 dX1_takesLetter_52 ?_
      refine g_iload_n hE dX1_takesLetter_55 rfl ?_
      refine g_dup2 hE dX1_takesLetter_56 rfl rfl ?_
      obtain ⟨h18, hf⟩ := ck_of hf
      refine g_iald hE (rlX1_2 hkt) h18 dX1_takesLetter_57 ?_
      refine g_iload_n hE dX1_takesLetter_58 rfl ?_
      refine g_ior hE dX1_takesLetter_59 ?_
      obtain ⟨h19, hf⟩ := ck_of hf
      refine g_iast hE (rlX1_2 hkt) h19 dX1_takesLetter_60 ?_
      obtain rfl := so1 hf
      exact hJ9
  · replace hf := it_t hf h5
    refine g_aload_n hE dX1_takesLetter_30 rfl ?_
    refine gtX1_0 hE hkt wf_RX1_25 dX1_takesLetter_31 ?_
    obtain ⟨h20, hf⟩ := ck_of hf
    obtain ⟨rfl, rfl⟩ := so2 hf
    exact g_zret hE rfl (bz_nar h20) dX1_takesLetter_34
set_option maxHeartbeats 4000000 in
set_option maxRecDepth 100000 in
theorem c_X1_takes {l : Launch} {w : WC} {t : Nat} {b_ : Int32} {z : Sg} {r0 : Int32} {z0 : Sg} (hkt : kd false t = KX1) (hf : f_X1_takes t b_ z = some (r0, z0)) : CT false l iX1_takes w [.ref t, .int b_] z (some (.int r0)) z0 := by
  refine ct_of 2 (lv := [some (.ref t), some (.int b_), none, none]) (by decide +kernel) rfl (Nat.le_of_ble_eq_true rfl) rfl (fun M hl hw hE => ?_)
  subst hl
  subst hw
  unfold f_X1_takes at hf
  refine g_aload_n hE dX1_takes_0 rfl ?_
  refine gtX1_4 hE hkt wf_RX1_33 dX1_takes_1 ?_
  refine g_bipush hE (6) dX1_takes_4 (by decide) ?_
  refine g_idiv hE dX1_takes_6 (by decide) ?_
  refine g_istore_n [some _, some _, some _, none] hE dX1_takes_7 (by decide) rfl ?_
  refine g_aload_n hE dX1_takes_8 rfl ?_
  refine gtX1_4 hE hkt wf_RX1_33 dX1_takes_9 ?_
  refine g_bipush hE (6) dX1_takes_12 (by decide) ?_
  refine g_irem hE dX1_takes_14 (by decide) ?_
  refine g_istore_n [some _, some _, some _, some _] hE dX1_takes_15 (by decide) rfl ?_
  refine g_iload_n hE dX1_takes_16 rfl ?_
  refine g_bipush hE (8) dX1_takes_17 (by decide) ?_
  refine g_icmp_lt 24 hE dX1_takes_19 (by decide) (fun h1 => ?_) (fun h1 => ?_)
  · replace hf := it_f hf (cv_nge h1)
    refine g_iload_n hE dX1_takes_24 rfl ?_
    refine g_iconst hE (4) dX1_takes_25 (by decide) ?_
    refine g_icmp_ge 39 hE dX1_takes_26 (by decide) (fun h2 => ?_) (fun h2 => ?_)
    · replace hf := it_f hf (cv_ngt h2)
      obtain ⟨x3, z4, hx5, hf⟩ := b2_of hf
      have hJ6 : G false iX1_takes M (some (.int r0), z0) 64 [some (.ref t), some (.int b_), some (.int ((rI z t 4) / (6 : Int32))), some (.int (jrem (rI z t 4) (6 : Int32)))] [.int x3] z4 := by
        obtain ⟨h7, hf⟩ := ck_of hf
        obtain ⟨rfl, rfl⟩ := so2 hf
        exact g_zret hE rfl (bz_nar h7) dX1_takes_64
      replace hf := hx5
      clear hx5
      refine g_iload_n hE dX1_takes_39 rfl ?_
      refine g_iconst hE (4) dX1_takes_40 (by decide) ?_
      refine g_icmp_ne 53 hE dX1_takes_41 (by decide) (fun h8 => ?_) (fun h8 => ?_)
      · replace hf := it_f hf h8
        obtain ⟨x9, hx10, hf⟩ := b1_of hf
        have hJ11 : G false iX1_takes M (some (.int r0), z0) 64 [some (.ref t), some (.int b_), some (.int ((rI z t 4) / (6 : Int32))), some (.int (jrem (rI z t 4) (6 : Int32)))] [.int x9] z := by
          obtain ⟨rfl, rfl⟩ := so2 hf
          exact hJ6
        replace hf := hx10
        clear hx10
        refine g_iload_n hE dX1_takes_53 rfl ?_
        refine g_bipush hE (59) dX1_takes_54 (by decide) ?_
        refine g_icmp_ne 63 hE dX1_takes_56 (by decide) (fun h12 => ?_) (fun h12 => ?_)
        · replace hf := it_f hf h12
          refine g_iconst hE (0) dX1_takes_63 (by decide) ?_
          obtain rfl := so1 hf
          exact hJ11
        · replace hf := it_t hf h12
          refine g_iconst hE (1) dX1_takes_59 (by decide) ?_
          refine g_goto 64 hE dX1_takes_60 (by decide) ?_
          obtain rfl := so1 hf
          exact hJ11
      · replace hf := it_t hf h8
        refine g_aload_n hE dX1_takes_44 rfl ?_
        refine g_iload_n hE dX1_takes_45 rfl ?_
        refine g_iload_n hE dX1_takes_46 rfl ?_
        obtain ⟨r15, z14, hc13, hf⟩ := b2_of hf
        refine g_callV2r hE mv_X1_takesFigure hkt rfl wm_RX1_50 (by decide) (Nat.le_of_ble_eq_true rfl) dX1_takes_47 (c_X1_takesFigure hkt hc13) ?_
        refine g_goto 64 hE dX1_takes_50 (by decide) ?_
        obtain ⟨rfl, rfl⟩ := so2 hf
        exact hJ6
    · replace hf := it_t hf (cv_gt h2)
      refine g_aload_n hE dX1_takes_29 rfl ?_
      refine g_iload_n hE dX1_takes_30 rfl ?_
      refine g_iconst hE (1) dX1_takes_31 (by decide) ?_
      refine g_iload_n hE dX1_takes_32 rfl ?_
      refine g_ishl hE dX1_takes_33 ?_
      refine g_iload_n hE dX1_takes_34 rfl ?_
      obtain ⟨r18, z17, hc16, hf⟩ := b2_of hf
      refine g_callV3r hE mv_X1_takesLetter hkt rfl wm_RX1_46 (by decide) (Nat.le_of_ble_eq_true rfl) dX1_takes_35 (c_X1_takesLetter hkt hc16) ?_
      obtain ⟨h19, hf⟩ := ck_of hf
      obtain ⟨rfl, rfl⟩ := so2 hf
      exact g_zret hE rfl (bz_nar h19) dX1_takes_38
  · replace hf := it_t hf (cv_ge h1)
    refine g_iconst hE (0) dX1_takes_22 (by decide) ?_
    obtain ⟨h20, hf⟩ := ck_of hf
    obtain ⟨rfl, rfl⟩ := so2 hf
    exact g_zret hE rfl (bz_nar h20) dX1_takes_23
set_option maxHeartbeats 4000000 in
set_option maxRecDepth 100000 in
theorem c_X1_add {l : Launch} {w : WC} {t : Nat} {b_ : Int32} {z : Sg} {z0 : Sg} (hkt : kd false t = KX1) (hf : f_X1_add t b_ z = some z0) : CT false l iX1_add w [.ref t, .int b_] z none z0 := by
  refine ct_of 0 (lv := [some (.ref t), some (.int b_)]) (by decide +kernel) rfl (Nat.le_of_ble_eq_true rfl) rfl (fun M hl hw hE => ?_)
  subst hl
  subst hw
  unfold f_X1_add at hf
  obtain ⟨z3, hx1, hf⟩ := b1_of hf
  have hJ2 : G false iX1_add M (none, z0) 24 [some (.ref t), some (.int b_)] [] z3 := by
    refine g_aload_n hE dX1_add_24 rfl ?_
    refine g_dup hE dX1_add_25 rfl ?_
    refine gtX1_4 hE hkt wf_RX1_33 dX1_add_26 ?_
    refine g_iconst hE (1) dX1_add_29 (by decide) ?_
    refine g_iadd hE dX1_add_30 ?_
    refine ptX1_4 hE hkt wf_RX1_33 dX1_add_31 ?_
    refine g_aload_n hE dX1_add_34 rfl ?_
    obtain ⟨z5, hc4, hf⟩ := b1_of hf
    refine g_callV0v hE mv_X1_countWhole hkt rfl wm_RX1_36 (by decide) (Nat.le_of_ble_eq_true rfl) dX1_add_35 (c_X1_countWhole hkt hc4) ?_
    obtain rfl := so1 hf
    exact g_ret hE rfl dX1_add_38
  replace hf := hx1
  clear hx1
  obtain ⟨q6, z7, hx8, hf⟩ := b2_of hf
  have hT9 : q6 = true → G false iX1_add M (none, z0) 16 [some (.ref t), some (.int b_)] [] z7 := by
    intro hq11
    replace hf := it_t hf hq11
    refine g_aload_n hE dX1_add_16 rfl ?_
    refine g_aload_n hE dX1_add_17 rfl ?_
    refine gtX1_4 hE hkt wf_RX1_33 dX1_add_18 ?_
    refine ptX1_6 hE hkt wf_RX1_21 dX1_add_21 ?_
    obtain rfl := so1 hf
    exact hJ2
  have hF10 : q6 = false → G false iX1_add M (none, z0) 24 [some (.ref t), some (.int b_)] [] z7 := by
    intro hq11
    replace hf := it_f hf (by rw [hq11]; decide)
    obtain rfl := so1 hf
    exact hJ2
  replace hf := hx8
  clear hx8
  refine g_aload_n hE dX1_add_0 rfl ?_
  refine gtX1_6 hE hkt wf_RX1_21 dX1_add_1 ?_
  refine g_iconst hE (-1) dX1_add_4 (by decide) ?_
  refine g_icmp_ne 24 hE dX1_add_5 (by decide) (fun h12 => ?_) (fun h12 => ?_)
  · replace hf := it_f hf h12
    obtain ⟨rfl, rfl⟩ := so2 hf
    exact hF10 rfl
  · replace hf := it_t hf h12
    refine g_aload_n hE dX1_add_8 rfl ?_
    refine g_iload_n hE dX1_add_9 rfl ?_
    obtain ⟨r15, z14, hc13, hf⟩ := b2_of hf
    refine g_callV1r hE mv_X1_takes hkt rfl wm_RX1_29 (by decide) (Nat.le_of_ble_eq_true rfl) dX1_add_10 (c_X1_takes hkt hc13) ?_
    refine g_if_ne 24 hE dX1_add_13 (by decide) (fun h16 => ?_) (fun h16 => ?_)
    · replace hf := it_t hf h16
      obtain ⟨rfl, rfl⟩ := so2 hf
      exact hF10 rfl
    · replace hf := it_f hf (fun q => q h16)
      obtain ⟨rfl, rfl⟩ := so2 hf
      exact hT9 rfl
set_option maxHeartbeats 4000000 in
set_option maxRecDepth 100000 in
theorem c_X7_outside {l : Launch} {w : WC} {number_ : Int32} {bound_ : Int32} {z : Sg} {r0 : Int32} (hf : f_X7_outside number_ bound_ = some r0) : CT false l iX7_outside w [.int number_, .int bound_] z (some (.int r0)) z := by
  refine ct_of 0 (lv := [some (.int number_), some (.int bound_)]) (by decide +kernel) rfl (Nat.le_of_ble_eq_true rfl) rfl (fun M hl hw hE => ?_)
  subst hl
  subst hw
  unfold f_X7_outside at hf
  obtain ⟨x1, hx2, hf⟩ := b1_of hf
  have hJ3 : G false iX7_outside M (some (.int r0), z) 14 [some (.int number_), some (.int bound_)] [.int x1] z := by
    obtain ⟨h4, hf⟩ := ck_of hf
    obtain rfl := so1 hf
    exact g_zret hE rfl (bz_nar h4) dX7_outside_14
  replace hf := hx2
  clear hx2
  refine g_iload_n hE dX7_outside_0 rfl ?_
  refine g_if_lt 9 hE dX7_outside_1 (by decide) (fun h5 => ?_) (fun h5 => ?_)
  · replace hf := it_t hf h5
    refine g_iconst hE (1) dX7_outside_9 (by decide) ?_
    refine g_goto 14 hE dX7_outside_10 (by decide) ?_
    obtain rfl := so1 hf
    exact hJ3
  · replace hf := it_f hf h5
    refine g_iload_n hE dX7_outside_4 rfl ?_
    refine g_iload_n hE dX7_outside_5 rfl ?_
    refine g_icmp_lt 13 hE dX7_outside_6 (by decide) (fun h6 => ?_) (fun h6 => ?_)
    · replace hf := it_f hf (cv_nge h6)
      refine g_iconst hE (0) dX7_outside_13 (by decide) ?_
      obtain rfl := so1 hf
      exact hJ3
    · replace hf := it_t hf (cv_ge h6)
      refine g_iconst hE (1) dX7_outside_9 (by decide) ?_
      refine g_goto 14 hE dX7_outside_10 (by decide) ?_
      obtain rfl := so1 hf
      exact hJ3
set_option maxHeartbeats 4000000 in
set_option maxRecDepth 100000 in
theorem c_X7_textChanged {l : Launch} {w : WC} {z : Sg} {z0 : Sg} (hf : f_X7_textChanged z = some z0) : CT false l iX7_textChanged w [.ref 0] z none z0 := by
  refine ct_of 0 (lv := [some (.ref 0)]) (by decide +kernel) rfl (Nat.le_of_ble_eq_true rfl) rfl (fun M hl hw hE => ?_)
  subst hl
  subst hw
  unfold f_X7_textChanged at hf
  refine g_aload_n hE dX7_textChanged_0 rfl ?_
  refine g_iconst hE (0) dX7_textChanged_1 (by decide) ?_
  refine ptX7_10 hE kX_0 wf_RX7_128 rfl rfl dX7_textChanged_2 ?_
  refine g_aload_n hE dX7_textChanged_5 rfl ?_
  refine g_iconst hE (0) dX7_textChanged_6 (by decide) ?_
  refine ptX7_11 hE kX_0 wf_RX7_377 rfl rfl dX7_textChanged_7 ?_
  obtain rfl := so1 hf
  exact g_ret hE rfl dX7_textChanged_10
set_option maxHeartbeats 4000000 in
set_option maxRecDepth 100000 in
theorem c_X7_textOf {l : Launch} {w : WC} {text_ : Int32} {z : Sg} {r0 : Nat} (hf : f_X7_textOf text_ z = some r0) : CT false l iX7_textOf w [.ref 0, .int text_] z (some (.ref r0)) z := by
  refine ct_of 0 (lv := [some (.ref 0), some (.int text_)]) (by decide +kernel) rfl (Nat.le_of_ble_eq_true rfl) rfl (fun M hl hw hE => ?_)
  subst hl
  subst hw
  unfold f_X7_textOf at hf
  obtain ⟨x1, hx2, hf⟩ := b1_of hf
  have hJ3 : G false iX7_textOf M (some (.ref r0), z) 15 [some (.ref 0), some (.int text_)] [.ref x1] z := by
    obtain ⟨hk4, hf⟩ := ck_of hf
    obtain rfl := so1 hf
    exact g_aret hE rfl dX7_textOf_15
  replace hf := hx2
  clear hx2
  refine g_iload_n hE dX7_textOf_0 rfl ?_
  refine g_if_ne 11 hE dX7_textOf_1 (by decide) (fun h5 => ?_) (fun h5 => ?_)
  · replace hf := it_f hf h5
    refine g_aload_n hE dX7_textOf_11 rfl ?_
    refine gtX7_1 hE kX_0 wf_RX7_18 dX7_textOf_12 ?_
    obtain rfl := so1 hf
    exact hJ3
  · replace hf := it_t hf h5
    refine g_aload_n hE dX7_textOf_4 rfl ?_
    refine gtX7_0 hE kX_0 wf_RX7_12 dX7_textOf_5 ?_
    refine g_goto 15 hE dX7_textOf_8 (by decide) ?_
    obtain rfl := so1 hf
    exact hJ3
set_option maxHeartbeats 4000000 in
set_option maxRecDepth 100000 in
theorem c_X7_type {l : Launch} {w : WC} {text_ : Int32} {b_ : Int32} {z : Sg} {r0 : Int32} {z0 : Sg} (hf : f_X7_type text_ b_ z = some (r0, z0)) : CT false l iX7_type w [.ref 0, .int text_, .int b_] z (some (.int r0)) z0 := by
  refine ct_of 1 (lv := [some (.ref 0), some (.int text_), some (.int b_), none]) (by decide +kernel) rfl (Nat.le_of_ble_eq_true rfl) rfl (fun M hl hw hE => ?_)
  subst hl
  subst hw
  unfold f_X7_type at hf
  obtain ⟨q1, hx2, hf⟩ := b1_of hf
  have hT3 : q1 = true → G false iX7_type M (some (.int r0), z0) 18 [some (.ref 0), some (.int text_), some (.int b_), none] [] z := by
    intro hq5
    replace hf := it_t hf hq5
    refine g_bipush hE (-2) dX7_type_18 (by decide) ?_
    obtain ⟨rfl, rfl⟩ := so2 hf
    exact g_iret hE rfl dX7_type_20
  have hF4 : q1 = false → G false iX7_type M (some (.int r0), z0) 21 [some (.ref 0), some (.int text_), some (.int b_), none] [] z := by
    intro hq5
    replace hf := it_f hf (by rw [hq5]; decide)
    refine g_aload_n hE dX7_type_21 rfl ?_
    refine g_iload_n hE dX7_type_22 rfl ?_
    obtain ⟨r7, hc6, hf⟩ := b1_of hf
    refine g_callV1r hE mv_X7_textOf kX_0 rfl wm_RX7_77 (by decide) (Nat.le_of_ble_eq_true rfl) dX7_type_23 (c_X7_textOf hc6) ?_
    obtain ⟨hk8, hf⟩ := ck_of hf
    refine g_astore_n [some _, some _, some _, some _] hE dX7_type_26 (by decide) rfl ?_
    refine g_aload_n hE dX7_type_27 rfl ?_
    refine gtX1_4 hE hk8 wf_RX7_81 dX7_type_28 ?_
    refine g_bipush hE (47) dX7_type_31 (by decide) ?_
    refine g_icmp_lt 39 hE dX7_type_33 (by decide) (fun h9 => ?_) (fun h9 => ?_)
    · replace hf := it_f hf (cv_nge h9)
      refine g_aload_n hE dX7_type_39 rfl ?_
      refine g_iload_n hE dX7_type_40 rfl ?_
      obtain ⟨z11, hc10, hf⟩ := b1_of hf
      refine g_callV1v hE mv_X1_add hk8 rfl wm_RX7_85 (by decide) (Nat.le_of_ble_eq_true rfl) dX7_type_41 (c_X1_add hk8 hc10) ?_
      refine g_aload_n hE dX7_type_44 rfl ?_
      obtain ⟨z13, hc12, hf⟩ := b1_of hf
      refine g_callV0v hE mv_X7_textChanged kX_0 rfl wm_RX7_89 (by decide) (Nat.le_of_ble_eq_true rfl) dX7_type_45 (c_X7_textChanged hc12) ?_
      refine g_aload_n hE dX7_type_48 rfl ?_
      refine gtX1_4 hE hk8 wf_RX7_81 dX7_type_49 ?_
      obtain ⟨rfl, rfl⟩ := so2 hf
      exact g_iret hE rfl dX7_type_52
    · replace hf := it_t hf (cv_ge h9)
      refine g_bipush hE (-4) dX7_type_36 (by decide) ?_
      obtain ⟨rfl, rfl⟩ := so2 hf
      exact g_iret hE rfl dX7_type_38
  replace hf := hx2
  clear hx2
  refine g_iload_n hE dX7_type_0 rfl ?_
  refine g_iconst hE (2) dX7_type_1 (by decide) ?_
  obtain ⟨r15, hc14, hf⟩ := b1_of hf
  refine g_callS2r hE ms_X7_outside wm_RX7_73 (by decide) (Nat.le_of_ble_eq_true rfl) dX7_type_2 (c_X7_outside hc14) ?_
  refine g_if_ne 18 hE dX7_type_5 (by decide) (fun h16 => ?_) (fun h16 => ?_)
  · replace hf := it_t hf h16
    obtain rfl := so1 hf
    exact hT3 rfl
  · replace hf := it_f hf (fun q => q h16)
    refine g_iload_n hE dX7_type_8 rfl ?_
    refine g_sipush hE (256) dX7_type_9 (by decide) ?_
    obtain ⟨r18, hc17, hf⟩ := b1_of hf
    refine g_callS2r hE ms_X7_outside wm_RX7_73 (by decide) (Nat.le_of_ble_eq_true rfl) dX7_type_12 (c_X7_outside hc17) ?_
    refine g_if_eq 21 hE dX7_type_15 (by decide) (fun h19 => ?_) (fun h19 => ?_)
    · replace hf := it_f hf (fun q => q h19)
      obtain rfl := so1 hf
      exact hF4 rfl
    · replace hf := it_t hf h19
      obtain rfl := so1 hf
      exact hT3 rfl
set_option maxHeartbeats 4000000 in
set_option maxRecDepth 100000 in
theorem c_X1_clear {l : Launch} {w : WC} {t : Nat} {z : Sg} {z0 : Sg} (hkt : kd false t = KX1) (hf : f_X1_clear t z = some z0) : CT false l iX1_clear w [.ref t] z none z0 := by
  refine ct_of 0 (lv := [some (.ref t)]) (by decide +kernel) rfl (Nat.le_of_ble_eq_true rfl) rfl (fun M hl hw hE => ?_)
  subst hl
  subst hw
  unfold f_X1_clear at hf
  refine g_aload_n hE dX1_clear_0 rfl ?_
  refine g_iconst hE (0) dX1_clear_1 (by decide) ?_
  refine ptX1_4 hE hkt wf_RX1_33 dX1_clear_2 ?_
  refine g_aload_n hE dX1_clear_5 rfl ?_
  refine g_iconst hE (-1) dX1_clear_6 (by decide) ?_
  refine ptX1_6 hE hkt wf_RX1_21 dX1_clear_7 ?_
  refine g_aload_n hE dX1_clear_10 rfl ?_
  refine g_iconst hE (0) dX1_clear_11 (by decide) ?_
  refine ptX1_5 hE hkt wf_RX1_39 dX1_clear_12 ?_
  obtain rfl := so1 hf
  exact g_ret hE rfl dX1_clear_15
set_option maxHeartbeats 4000000 in
set_option maxRecDepth 100000 in
theorem c_X7_wipe {l : Launch} {w : WC} {text_ : Int32} {z : Sg} {r0 : Int32} {z0 : Sg} (hf : f_X7_wipe text_ z = some (r0, z0)) : CT false l iX7_wipe w [.ref 0, .int text_] z (some (.int r0)) z0 := by
  refine ct_of 2 (lv := [some (.ref 0), some (.int text_), none, none]) (by decide +kernel) rfl (Nat.le_of_ble_eq_true rfl) rfl (fun M hl hw hE => ?_)
  subst hl
  subst hw
  unfold f_X7_wipe at hf
  refine g_iload_n hE dX7_wipe_0 rfl ?_
  refine g_iconst hE (2) dX7_wipe_1 (by decide) ?_
  obtain ⟨r2, hc1, hf⟩ := b1_of hf
  refine g_callS2r hE ms_X7_outside wm_RX7_73 (by decide) (Nat.le_of_ble_eq_true rfl) dX7_wipe_2 (c_X7_outside hc1) ?_
  refine g_if_eq 11 hE dX7_wipe_5 (by decide) (fun h3 => ?_) (fun h3 => ?_)
  · replace hf := it_f hf (fun q => q h3)
    refine g_aload_n hE dX7_wipe_11 rfl ?_
    refine g_iload_n hE dX7_wipe_12 rfl ?_
    obtain ⟨r5, hc4, hf⟩ := b1_of hf
    refine g_callV1r hE mv_X7_textOf kX_0 rfl wm_RX7_77 (by decide) (Nat.le_of_ble_eq_true rfl) dX7_wipe_13 (c_X7_textOf hc4) ?_
    obtain ⟨hk6, hf⟩ := ck_of hf
    refine g_astore_n [some _, some _, some _, none] hE dX7_wipe_16 (by decide) rfl ?_
    refine g_aload_n hE dX7_wipe_17 rfl ?_
    refine gtX1_4 hE hk6 wf_RX7_81 dX7_wipe_18 ?_
    refine g_istore_n [some _, some _, some _, some _] hE dX7_wipe_21 (by decide) rfl ?_
    refine g_aload_n hE dX7_wipe_22 rfl ?_
    obtain ⟨z8, hc7, hf⟩ := b1_of hf
    refine g_callV0v hE mv_X1_clear hk6 rfl wm_RX7_92 (by decide) (Nat.le_of_ble_eq_true rfl) dX7_wipe_23 (c_X1_clear hk6 hc7) ?_
    refine g_aload_n hE dX7_wipe_26 rfl ?_
    obtain ⟨z10, hc9, hf⟩ := b1_of hf
    refine g_callV0v hE mv_X7_textChanged kX_0 rfl wm_RX7_89 (by decide) (Nat.le_of_ble_eq_true rfl) dX7_wipe_27 (c_X7_textChanged hc9) ?_
    refine g_iload_n hE dX7_wipe_30 rfl ?_
    obtain ⟨rfl, rfl⟩ := so2 hf
    exact g_iret hE rfl dX7_wipe_31
  · replace hf := it_t hf h3
    refine g_bipush hE (-2) dX7_wipe_8 (by decide) ?_
    obtain ⟨rfl, rfl⟩ := so2 hf
    exact g_iret hE rfl dX7_wipe_10
set_option maxHeartbeats 4000000 in
set_option maxRecDepth 100000 in
theorem c_X1_dropLast {l : Launch} {w : WC} {t : Nat} {z : Sg} {z0 : Sg} (hkt : kd false t = KX1) (hf : f_X1_dropLast t z = some z0) : CT false l iX1_dropLast w [.ref t] z none z0 := by
  refine ct_of 0 (lv := [some (.ref t)]) (by decide +kernel) rfl (Nat.le_of_ble_eq_true rfl) rfl (fun M hl hw hE => ?_)
  subst hl
  subst hw
  unfold f_X1_dropLast at hf
  refine g_aload_n hE dX1_dropLast_0 rfl ?_
  refine g_dup hE dX1_dropLast_1 rfl ?_
  refine gtX1_4 hE hkt wf_RX1_33 dX1_dropLast_2 ?_
  refine g_iconst hE (1) dX1_dropLast_5 (by decide) ?_
  refine g_isub hE dX1_dropLast_6 ?_
  refine ptX1_4 hE hkt wf_RX1_33 dX1_dropLast_7 ?_
  obtain ⟨z3, hx1, hf⟩ := b1_of hf
  have hJ2 : G false iX1_dropLast M (none, z0) 26 [some (.ref t)] [] z3 := by
    refine g_aload_n hE dX1_dropLast_26 rfl ?_
    obtain ⟨z5, hc4, hf⟩ := b1_of hf
    refine g_callV0v hE mv_X1_countWhole hkt rfl wm_RX1_36 (by decide) (Nat.le_of_ble_eq_true rfl) dX1_dropLast_27 (c_X1_countWhole hkt hc4) ?_
    obtain rfl := so1 hf
    exact g_ret hE rfl dX1_dropLast_30
  replace hf := hx1
  clear hx1
  refine g_aload_n hE dX1_dropLast_10 rfl ?_
  refine gtX1_6 hE hkt wf_RX1_21 dX1_dropLast_11 ?_
  refine g_aload_n hE dX1_dropLast_14 rfl ?_
  refine gtX1_4 hE hkt wf_RX1_33 dX1_dropLast_15 ?_
  refine g_icmp_ne 26 hE dX1_dropLast_18 (by decide) (fun h6 => ?_) (fun h6 => ?_)
  · replace hf := it_f hf h6
    obtain rfl := so1 hf
    exact hJ2
  · replace hf := it_t hf h6
    refine g_aload_n hE dX1_dropLast_21 rfl ?_
    refine g_iconst hE (-1) dX1_dropLast_22 (by decide) ?_
    refine ptX1_6 hE hkt wf_RX1_21 dX1_dropLast_23 ?_
    obtain rfl := so1 hf
    exact hJ2
set_option maxHeartbeats 4000000 in
set_option maxRecDepth 100000 in
theorem c_X7_undo {l : Launch} {w : WC} {text_ : Int32} {z : Sg} {r0 : Int32} {z0 : Sg} (hf : f_X7_undo text_ z = some (r0, z0)) : CT false l iX7_undo w [.ref 0, .int text_] z (some (.int r0)) z0 := by
  refine ct_of 1 (lv := [some (.ref 0), some (.int text_), none]) (by decide +kernel) rfl (Nat.le_of_ble_eq_true rfl) rfl (fun M hl hw hE => ?_)
  subst hl
  subst hw
  unfold f_X7_undo at hf
  refine g_iload_n hE dX7_undo_0 rfl ?_
  refine g_iconst hE (2) dX7_undo_1 (by decide) ?_
  obtain ⟨r2, hc1, hf⟩ := b1_of hf
  refine g_callS2r hE ms_X7_outside wm_RX7_73 (by decide) (Nat.le_of_ble_eq_true rfl) dX7_undo_2 (c_X7_outside hc1) ?_
  refine g_if_eq 11 hE dX7_undo_5 (by decide) (fun h3 => ?_) (fun h3 => ?_)
  · replace hf := it_f hf (fun q => q h3)
    refine g_aload_n hE dX7_undo_11 rfl ?_
    refine g_iload_n hE dX7_undo_12 rfl ?_
    obtain ⟨r5, hc4, hf⟩ := b1_of hf
    refine g_callV1r hE mv_X7_textOf kX_0 rfl wm_RX7_77 (by decide) (Nat.le_of_ble_eq_true rfl) dX7_undo_13 (c_X7_textOf hc4) ?_
    obtain ⟨hk6, hf⟩ := ck_of hf
    refine g_astore_n [some _, some _, some _] hE dX7_undo_16 (by decide) rfl ?_
    refine g_aload_n hE dX7_undo_17 rfl ?_
    refine gtX1_4 hE hk6 wf_RX7_81 dX7_undo_18 ?_
    refine g_if_ne 27 hE dX7_undo_21 (by decide) (fun h7 => ?_) (fun h7 => ?_)
    · replace hf := it_f hf h7
      refine g_aload_n hE dX7_undo_27 rfl ?_
      obtain ⟨z9, hc8, hf⟩ := b1_of hf
      refine g_callV0v hE mv_X1_dropLast hk6 rfl wm_RX7_95 (by decide) (Nat.le_of_ble_eq_true rfl) dX7_undo_28 (c_X1_dropLast hk6 hc8) ?_
      refine g_aload_n hE dX7_undo_31 rfl ?_
      obtain ⟨z11, hc10, hf⟩ := b1_of hf
      refine g_callV0v hE mv_X7_textChanged kX_0 rfl wm_RX7_89 (by decide) (Nat.le_of_ble_eq_true rfl) dX7_undo_32 (c_X7_textChanged hc10) ?_
      refine g_aload_n hE dX7_undo_35 rfl ?_
      refine gtX1_4 hE hk6 wf_RX7_81 dX7_undo_36 ?_
      obtain ⟨rfl, rfl⟩ := so2 hf
      exact g_iret hE rfl dX7_undo_39
    · replace hf := it_t hf h7
      refine g_bipush hE (-3) dX7_undo_24 (by decide) ?_
      obtain ⟨rfl, rfl⟩ := so2 hf
      exact g_iret hE rfl dX7_undo_26
  · replace hf := it_t hf h3
    refine g_bipush hE (-2) dX7_undo_8 (by decide) ?_
    obtain ⟨rfl, rfl⟩ := so2 hf
    exact g_iret hE rfl dX7_undo_10
set_option maxHeartbeats 4000000 in
set_option maxRecDepth 100000 in
theorem c_X7_fault {l : Launch} {w : WC} {text_ : Int32} {z : Sg} {r0 : Int32} (hf : f_X7_fault text_ z = some r0) : CT false l iX7_fault w [.ref 0, .int text_] z (some (.int r0)) z := by
  refine ct_of 0 (lv := [some (.ref 0), some (.int text_)]) (by decide +kernel) rfl (Nat.le_of_ble_eq_true rfl) rfl (fun M hl hw hE => ?_)
  subst hl
  subst hw
  unfold f_X7_fault at hf
  obtain ⟨x1, hx2, hf⟩ := b1_of hf
  have hJ3 : G false iX7_fault M (some (.int r0), z) 21 [some (.ref 0), some (.int text_)] [.int x1] z := by
    obtain rfl := so1 hf
    exact g_iret hE rfl dX7_fault_21
  replace hf := hx2
  clear hx2
  refine g_iload_n hE dX7_fault_0 rfl ?_
  refine g_iconst hE (2) dX7_fault_1 (by decide) ?_
  obtain ⟨r5, hc4, hf⟩ := b1_of hf
  refine g_callS2r hE ms_X7_outside wm_RX7_73 (by decide) (Nat.le_of_ble_eq_true rfl) dX7_fault_2 (c_X7_outside hc4) ?_
  refine g_if_eq 13 hE dX7_fault_5 (by decide) (fun h6 => ?_) (fun h6 => ?_)
  · replace hf := it_f hf (fun q => q h6)
    refine g_aload_n hE dX7_fault_13 rfl ?_
    refine g_iload_n hE dX7_fault_14 rfl ?_
    obtain ⟨r8, hc7, hf⟩ := b1_of hf
    refine g_callV1r hE mv_X7_textOf kX_0 rfl wm_RX7_77 (by decide) (Nat.le_of_ble_eq_true rfl) dX7_fault_15 (c_X7_textOf hc7) ?_
    obtain ⟨hk9, hf⟩ := ck_of hf
    obtain ⟨r11, hc10, hf⟩ := b1_of hf
    refine g_callV0r hE mv_X1_faultPlace hk9 rfl wm_RX7_98 (by decide) (Nat.le_of_ble_eq_true rfl) dX7_fault_18 (c_X1_faultPlace hk9 hc10) ?_
    obtain rfl := so1 hf
    exact hJ3
  · replace hf := it_t hf h6
    refine g_bipush hE (-2) dX7_fault_8 (by decide) ?_
    refine g_goto 21 hE dX7_fault_10 (by decide) ?_
    obtain rfl := so1 hf
    exact hJ3
set_option maxHeartbeats 4000000 in
set_option maxRecDepth 100000 in
theorem c_X7_noVirtue {l : Launch} {w : WC} {v_ : Int32} {z : Sg} {r0 : Int32} (hf : f_X7_noVirtue v_ z = some r0) : CT false l iX7_noVirtue w [.ref 0, .int v_] z (some (.int r0)) z := by
  refine ct_of 0 (lv := [some (.ref 0), some (.int v_)]) (by decide +kernel) rfl (Nat.le_of_ble_eq_true rfl) rfl (fun M hl hw hE => ?_)
  subst hl
  subst hw
  unfold f_X7_noVirtue at hf
  refine g_iload_n hE dX7_noVirtue_0 rfl ?_
  refine g_aload_n hE dX7_noVirtue_1 rfl ?_
  refine gtX7_0 hE kX_0 wf_RX7_12 dX7_noVirtue_2 ?_
  refine gtX1_5 hE kX_1 wf_RX7_177 dX7_noVirtue_5 ?_
  obtain ⟨r2, hc1, hf⟩ := b1_of hf
  refine g_callS2r hE ms_X7_outside wm_RX7_73 (by decide) (Nat.le_of_ble_eq_true rfl) dX7_noVirtue_8 (c_X7_outside hc1) ?_
  obtain ⟨h3, hf⟩ := ck_of hf
  obtain rfl := so1 hf
  exact g_zret hE rfl (bz_nar h3) dX7_noVirtue_11
set_option maxHeartbeats 4000000 in
set_option maxRecDepth 100000 in
theorem c_X7_virtue {l : Launch} {w : WC} {virtue_ : Int32} {what_ : Int32} {z : Sg} {r0 : Int32} (hf : f_X7_virtue virtue_ what_ z = some r0) : CT false l iX7_virtue w [.ref 0, .int virtue_, .int what_] z (some (.int r0)) z := by
  refine ct_of 0 (lv := [some (.ref 0), some (.int virtue_), some (.int what_)]) (by decide +kernel) rfl (Nat.le_of_ble_eq_true rfl) rfl (fun M hl hw hE => ?_)
  subst hl
  subst hw
  unfold f_X7_virtue at hf
  obtain ⟨q1, hx2, hf⟩ := b1_of hf
  have hT3 : q1 = true → G false iX7_virtue M (some (.int r0), z) 16 [some (.ref 0), some (.int virtue_), some (.int what_)] [] z := by
    intro hq5
    replace hf := it_t hf hq5
    refine g_bipush hE (-2) dX7_virtue_16 (by decide) ?_
    obtain rfl := so1 hf
    exact g_iret hE rfl dX7_virtue_18
  have hF4 : q1 = false → G false iX7_virtue M (some (.int r0), z) 19 [some (.ref 0), some (.int virtue_), some (.int what_)] [] z := by
    intro hq5
    replace hf := it_f hf (by rw [hq5]; decide)
    obtain ⟨x6, hx7, hf⟩ := b1_of hf
    have hJ8 : G false iX7_virtue M (some (.int r0), z) 44 [some (.ref 0), some (.int virtue_), some (.int what_)] [.int x6] z := by
      obtain rfl := so1 hf
      exact g_iret hE rfl dX7_virtue_44
    replace hf := hx7
    clear hx7
    refine g_iload_n hE dX7_virtue_19 rfl ?_
    refine g_if_ne 35 hE dX7_virtue_20 (by decide) (fun h9 => ?_) (fun h9 => ?_)
    · replace hf := it_f hf h9
      refine g_aload_n hE dX7_virtue_35 rfl ?_
      refine gtX7_0 hE kX_0 wf_RX7_12 dX7_virtue_36 ?_
      refine gtX1_3 hE kX_1 wf_RX7_110 dX7_virtue_39 ?_
      show G false iX7_virtue M (some (.int r0), z) 42 [some (.ref 0), some (.int virtue_), some (.int what_)] [.ref 4] z
      refine g_iload_n hE dX7_virtue_42 rfl ?_
      obtain ⟨h10, hf⟩ := ck_of hf
      refine g_iald hE kX_4 h10 dX7_virtue_43 ?_
      obtain rfl := so1 hf
      exact hJ8
    · replace hf := it_t hf h9
      refine g_aload_n hE dX7_virtue_23 rfl ?_
      refine gtX7_0 hE kX_0 wf_RX7_12 dX7_virtue_24 ?_
      refine gtX1_2 hE kX_1 wf_RX7_106 dX7_virtue_27 ?_
      show G false iX7_virtue M (some (.int r0), z) 30 [some (.ref 0), some (.int virtue_), some (.int what_)] [.ref 3] z
      refine g_iload_n hE dX7_virtue_30 rfl ?_
      obtain ⟨h11, hf⟩ := ck_of hf
      refine g_iald hE kX_3 h11 dX7_virtue_31 ?_
      refine g_goto 44 hE dX7_virtue_32 (by decide) ?_
      obtain rfl := so1 hf
      exact hJ8
  replace hf := hx2
  clear hx2
  refine g_aload_n hE dX7_virtue_0 rfl ?_
  refine g_iload_n hE dX7_virtue_1 rfl ?_
  obtain ⟨r13, hc12, hf⟩ := b1_of hf
  refine g_callV1r hE mv_X7_noVirtue kX_0 rfl wm_RX7_102 (by decide) (Nat.le_of_ble_eq_true rfl) dX7_virtue_2 (c_X7_noVirtue hc12) ?_
  refine g_if_ne 16 hE dX7_virtue_5 (by decide) (fun h14 => ?_) (fun h14 => ?_)
  · replace hf := it_t hf h14
    obtain rfl := so1 hf
    exact hT3 rfl
  · replace hf := it_f hf (fun q => q h14)
    refine g_iload_n hE dX7_virtue_8 rfl ?_
    refine g_iconst hE (2) dX7_virtue_9 (by decide) ?_
    obtain ⟨r16, hc15, hf⟩ := b1_of hf
    refine g_callS2r hE ms_X7_outside wm_RX7_73 (by decide) (Nat.le_of_ble_eq_true rfl) dX7_virtue_10 (c_X7_outside hc15) ?_
    refine g_if_eq 19 hE dX7_virtue_13 (by decide) (fun h17 => ?_) (fun h17 => ?_)
    · replace hf := it_f hf (fun q => q h17)
      obtain rfl := so1 hf
      exact hF4 rfl
    · replace hf := it_t hf h17
      obtain rfl := so1 hf
      exact hT3 rfl
set_option maxHeartbeats 4000000 in
set_option maxRecDepth 100000 in
theorem c_X7_noClaimant {l : Launch} {w : WC} {c_ : Int32} {z : Sg} {r0 : Int32} (hf : f_X7_noClaimant c_ z = some r0) : CT false l iX7_noClaimant w [.ref 0, .int c_] z (some (.int r0)) z := by
  refine ct_of 0 (lv := [some (.ref 0), some (.int c_)]) (by decide +kernel) rfl (Nat.le_of_ble_eq_true rfl) rfl (fun M hl hw hE => ?_)
  subst hl
  subst hw
  unfold f_X7_noClaimant at hf
  refine g_iload_n hE dX7_noClaimant_0 rfl ?_
  refine g_aload_n hE dX7_noClaimant_1 rfl ?_
  refine gtX7_1 hE kX_0 wf_RX7_18 dX7_noClaimant_2 ?_
  refine gtX1_5 hE kX_5 wf_RX7_177 dX7_noClaimant_5 ?_
  obtain ⟨r2, hc1, hf⟩ := b1_of hf
  refine g_callS2r hE ms_X7_outside wm_RX7_73 (by decide) (Nat.le_of_ble_eq_true rfl) dX7_noClaimant_8 (c_X7_outside hc1) ?_
  obtain ⟨h3, hf⟩ := ck_of hf
  obtain rfl := so1 hf
  exact g_zret hE rfl (bz_nar h3) dX7_noClaimant_11
set_option maxHeartbeats 4000000 in
set_option maxRecDepth 100000 in
theorem c_X7_claimant {l : Launch} {w : WC} {claimant_ : Int32} {what_ : Int32} {z : Sg} {r0 : Int32} (hf : f_X7_claimant claimant_ what_ z = some r0) : CT false l iX7_claimant w [.ref 0, .int claimant_, .int what_] z (some (.int r0)) z := by
  refine ct_of 0 (lv := [some (.ref 0), some (.int claimant_), some (.int what_)]) (by decide +kernel) rfl (Nat.le_of_ble_eq_true rfl) rfl (fun M hl hw hE => ?_)
  subst hl
  subst hw
  unfold f_X7_claimant at hf
  obtain ⟨q1, hx2, hf⟩ := b1_of hf
  have hT3 : q1 = true → G false iX7_claimant M (some (.int r0), z) 16 [some (.ref 0), some (.int claimant_), some (.int what_)] [] z := by
    intro hq5
    replace hf := it_t hf hq5
    refine g_bipush hE (-2) dX7_claimant_16 (by decide) ?_
    obtain rfl := so1 hf
    exact g_iret hE rfl dX7_claimant_18
  have hF4 : q1 = false → G false iX7_claimant M (some (.int r0), z) 19 [some (.ref 0), some (.int claimant_), some (.int what_)] [] z := by
    intro hq5
    replace hf := it_f hf (by rw [hq5]; decide)
    refine g_iload_n hE dX7_claimant_19 rfl ?_
    refine g_if_ne 33 hE dX7_claimant_20 (by decide) (fun h6 => ?_) (fun h6 => ?_)
    · replace hf := it_f hf h6
      obtain ⟨x7, hx8, hf⟩ := b1_of hf
      have hJ9 : G false iX7_claimant M (some (.int r0), z) 59 [some (.ref 0), some (.int claimant_), some (.int what_)] [.int x7] z := by
        obtain rfl := so1 hf
        exact g_iret hE rfl dX7_claimant_59
      replace hf := hx8
      clear hx8
      refine g_iload_n hE dX7_claimant_33 rfl ?_
      refine g_iconst hE (1) dX7_claimant_34 (by decide) ?_
      refine g_icmp_ne 50 hE dX7_claimant_35 (by decide) (fun h10 => ?_) (fun h10 => ?_)
      · replace hf := it_f hf h10
        refine g_aload_n hE dX7_claimant_50 rfl ?_
        refine gtX7_1 hE kX_0 wf_RX7_18 dX7_claimant_51 ?_
        refine gtX1_3 hE kX_5 wf_RX7_110 dX7_claimant_54 ?_
        show G false iX7_claimant M (some (.int r0), z) 57 [some (.ref 0), some (.int claimant_), some (.int what_)] [.ref 8] z
        refine g_iload_n hE dX7_claimant_57 rfl ?_
        obtain ⟨h11, hf⟩ := ck_of hf
        refine g_iald hE kX_8 h11 dX7_claimant_58 ?_
        obtain rfl := so1 hf
        exact hJ9
      · replace hf := it_t hf h10
        refine g_aload_n hE dX7_claimant_38 rfl ?_
        refine gtX7_1 hE kX_0 wf_RX7_18 dX7_claimant_39 ?_
        refine gtX1_2 hE kX_5 wf_RX7_106 dX7_claimant_42 ?_
        show G false iX7_claimant M (some (.int r0), z) 45 [some (.ref 0), some (.int claimant_), some (.int what_)] [.ref 7] z
        refine g_iload_n hE dX7_claimant_45 rfl ?_
        obtain ⟨h12, hf⟩ := ck_of hf
        refine g_iald hE kX_7 h12 dX7_claimant_46 ?_
        refine g_goto 59 hE dX7_claimant_47 (by decide) ?_
        obtain rfl := so1 hf
        exact hJ9
    · replace hf := it_t hf h6
      refine g_aload_n hE dX7_claimant_23 rfl ?_
      refine gtX7_1 hE kX_0 wf_RX7_18 dX7_claimant_24 ?_
      refine gtX1_1 hE kX_5 wf_RX7_116 dX7_claimant_27 ?_
      show G false iX7_claimant M (some (.int r0), z) 30 [some (.ref 0), some (.int claimant_), some (.int what_)] [.ref 6] z
      refine g_iload_n hE dX7_claimant_30 rfl ?_
      obtain ⟨h13, hf⟩ := ck_of hf
      refine g_iald hE kX_6 h13 dX7_claimant_31 ?_
      obtain rfl := so1 hf
      exact g_iret hE rfl dX7_claimant_32
  replace hf := hx2
  clear hx2
  refine g_aload_n hE dX7_claimant_0 rfl ?_
  refine g_iload_n hE dX7_claimant_1 rfl ?_
  obtain ⟨r15, hc14, hf⟩ := b1_of hf
  refine g_callV1r hE mv_X7_noClaimant kX_0 rfl wm_RX7_113 (by decide) (Nat.le_of_ble_eq_true rfl) dX7_claimant_2 (c_X7_noClaimant hc14) ?_
  refine g_if_ne 16 hE dX7_claimant_5 (by decide) (fun h16 => ?_) (fun h16 => ?_)
  · replace hf := it_t hf h16
    obtain rfl := so1 hf
    exact hT3 rfl
  · replace hf := it_f hf (fun q => q h16)
    refine g_iload_n hE dX7_claimant_8 rfl ?_
    refine g_iconst hE (3) dX7_claimant_9 (by decide) ?_
    obtain ⟨r18, hc17, hf⟩ := b1_of hf
    refine g_callS2r hE ms_X7_outside wm_RX7_73 (by decide) (Nat.le_of_ble_eq_true rfl) dX7_claimant_10 (c_X7_outside hc17) ?_
    refine g_if_eq 19 hE dX7_claimant_13 (by decide) (fun h19 => ?_) (fun h19 => ?_)
    · replace hf := it_f hf (fun q => q h19)
      obtain rfl := so1 hf
      exact hF4 rfl
    · replace hf := it_t hf h19
      obtain rfl := so1 hf
      exact hT3 rfl
set_option maxHeartbeats 4000000 in
set_option maxRecDepth 100000 in
theorem c_X7_set {l : Launch} {w : WC} {what_ : Int32} {v_ : Int32} {z : Sg} {r0 : Int32} {z0 : Sg} (hf : f_X7_set what_ v_ z = some (r0, z0)) : CT false l iX7_set w [.ref 0, .int what_, .int v_] z (some (.int r0)) z0 := by
  refine ct_of 1 (lv := [some (.ref 0), some (.int what_), some (.int v_), none]) (by decide +kernel) rfl (Nat.le_of_ble_eq_true rfl) rfl (fun M hl hw hE => ?_)
  subst hl
  subst hw
  unfold f_X7_set at hf
  obtain ⟨q1, hx2, hf⟩ := b1_of hf
  have hT3 : q1 = true → G false iX7_set M (some (.int r0), z0) 13 [some (.ref 0), some (.int what_), some (.int v_), none] [] z := by
    intro hq5
    replace hf := it_t hf hq5
    refine g_aload_n hE dX7_set_13 rfl ?_
    refine gtX7_2 hE kX_0 wf_RX7_26 dX7_set_14 ?_
    refine gtX2_2 hE kX_9 wf_RX7_119 dX7_set_17 ?_
    refine g_istore_n [some _, some _, some _, some _] hE dX7_set_20 (by decide) rfl ?_
    refine g_aload_n hE dX7_set_21 rfl ?_
    refine gtX7_2 hE kX_0 wf_RX7_26 dX7_set_22 ?_
    refine g_iload_n hE dX7_set_25 rfl ?_
    refine ptX2_2 hE kX_9 wf_RX7_119 dX7_set_26 ?_
    refine g_goto 104 hE dX7_set_29 (by decide) ?_
    refine g_aload_n hE dX7_set_104 rfl ?_
    refine g_iconst hE (0) dX7_set_105 (by decide) ?_
    refine ptX7_10 hE kX_0 wf_RX7_128 rfl rfl dX7_set_106 ?_
    refine g_iload_n hE dX7_set_109 rfl ?_
    obtain ⟨rfl, rfl⟩ := so2 hf
    exact g_iret hE rfl dX7_set_110
  have hF4 : q1 = false → G false iX7_set M (some (.int r0), z0) 32 [some (.ref 0), some (.int what_), some (.int v_), none] [] z := by
    intro hq5
    replace hf := it_f hf (by rw [hq5]; decide)
    obtain ⟨q6, hx7, hf⟩ := b1_of hf
    have hT8 : q6 = true → G false iX7_set M (some (.int r0), z0) 47 [some (.ref 0), some (.int what_), some (.int v_), none] [] z := by
      intro hq10
      replace hf := it_t hf hq10
      refine g_aload_n hE dX7_set_47 rfl ?_
      refine gtX7_2 hE kX_0 wf_RX7_26 dX7_set_48 ?_
      refine gtX2_3 hE kX_9 wf_RX7_122 dX7_set_51 ?_
      refine g_istore_n [some _, some _, some _, some _] hE dX7_set_54 (by decide) rfl ?_
      refine g_aload_n hE dX7_set_55 rfl ?_
      refine gtX7_2 hE kX_0 wf_RX7_26 dX7_set_56 ?_
      refine g_iload_n hE dX7_set_59 rfl ?_
      refine ptX2_3 hE kX_9 wf_RX7_122 dX7_set_60 ?_
      refine g_goto 104 hE dX7_set_63 (by decide) ?_
      refine g_aload_n hE dX7_set_104 rfl ?_
      refine g_iconst hE (0) dX7_set_105 (by decide) ?_
      refine ptX7_10 hE kX_0 wf_RX7_128 rfl rfl dX7_set_106 ?_
      refine g_iload_n hE dX7_set_109 rfl ?_
      obtain ⟨rfl, rfl⟩ := so2 hf
      exact g_iret hE rfl dX7_set_110
    have hF9 : q6 = false → G false iX7_set M (some (.int r0), z0) 66 [some (.ref 0), some (.int what_), some (.int v_), none] [] z := by
      intro hq10
      replace hf := it_f hf (by rw [hq10]; decide)
      obtain ⟨q11, hx12, hf⟩ := b1_of hf
      have hT13 : q11 = true → G false iX7_set M (some (.int r0), z0) 82 [some (.ref 0), some (.int what_), some (.int v_), none] [] z := by
        intro hq15
        replace hf := it_t hf hq15
        refine g_aload_n hE dX7_set_82 rfl ?_
        refine gtX7_2 hE kX_0 wf_RX7_26 dX7_set_83 ?_
        refine gtX2_4 hE kX_9 wf_RX7_125 dX7_set_86 ?_
        refine g_istore_n [some _, some _, some _, some _] hE dX7_set_89 (by decide) rfl ?_
        refine g_aload_n hE dX7_set_90 rfl ?_
        refine gtX7_2 hE kX_0 wf_RX7_26 dX7_set_91 ?_
        refine g_iload_n hE dX7_set_94 rfl ?_
        refine ptX2_4 hE kX_9 wf_RX7_125 dX7_set_95 ?_
        refine g_goto 104 hE dX7_set_98 (by decide) ?_
        refine g_aload_n hE dX7_set_104 rfl ?_
        refine g_iconst hE (0) dX7_set_105 (by decide) ?_
        refine ptX7_10 hE kX_0 wf_RX7_128 rfl rfl dX7_set_106 ?_
        refine g_iload_n hE dX7_set_109 rfl ?_
        obtain ⟨rfl, rfl⟩ := so2 hf
        exact g_iret hE rfl dX7_set_110
      have hF14 : q11 = false → G false iX7_set M (some (.int r0), z0) 101 [some (.ref 0), some (.int what_), some (.int v_), none] [] z := by
        intro hq15
        replace hf := it_f hf (by rw [hq15]; decide)
        refine g_bipush hE (-2) dX7_set_101 (by decide) ?_
        obtain ⟨rfl, rfl⟩ := so2 hf
        exact g_iret hE rfl dX7_set_103
      replace hf := hx12
      clear hx12
      refine g_iload_n hE dX7_set_66 rfl ?_
      refine g_iconst hE (2) dX7_set_67 (by decide) ?_
      refine g_icmp_ne 101 hE dX7_set_68 (by decide) (fun h16 => ?_) (fun h16 => ?_)
      · replace hf := it_f hf h16
        obtain rfl := so1 hf
        exact hF14 rfl
      · replace hf := it_t hf h16
        refine g_iload_n hE dX7_set_71 rfl ?_
        refine g_iconst hE (1) dX7_set_72 (by decide) ?_
        refine g_icmp_lt 101 hE dX7_set_73 (by decide) (fun h17 => ?_) (fun h17 => ?_)
        · replace hf := it_f hf (cv_nge h17)
          obtain rfl := so1 hf
          exact hF14 rfl
        · replace hf := it_t hf (cv_ge h17)
          refine g_iload_n hE dX7_set_76 rfl ?_
          refine g_bipush hE (9) dX7_set_77 (by decide) ?_
          refine g_icmp_gt 101 hE dX7_set_79 (by decide) (fun h18 => ?_) (fun h18 => ?_)
          · replace hf := it_f hf (cv_nge h18)
            obtain rfl := so1 hf
            exact hF14 rfl
          · replace hf := it_t hf (cv_ge h18)
            obtain rfl := so1 hf
            exact hT13 rfl
    replace hf := hx7
    clear hx7
    refine g_iload_n hE dX7_set_32 rfl ?_
    refine g_iconst hE (1) dX7_set_33 (by decide) ?_
    refine g_icmp_ne 66 hE dX7_set_34 (by decide) (fun h19 => ?_) (fun h19 => ?_)
    · replace hf := it_f hf h19
      obtain rfl := so1 hf
      exact hF9 rfl
    · replace hf := it_t hf h19
      refine g_iload_n hE dX7_set_37 rfl ?_
      refine g_if_lt 66 hE dX7_set_38 (by decide) (fun h20 => ?_) (fun h20 => ?_)
      · replace hf := it_f hf (cv_nge h20)
        obtain rfl := so1 hf
        exact hF9 rfl
      · replace hf := it_t hf (cv_ge h20)
        refine g_iload_n hE dX7_set_41 rfl ?_
        refine g_bipush hE (16) dX7_set_42 (by decide) ?_
        refine g_icmp_ge 66 hE dX7_set_44 (by decide) (fun h21 => ?_) (fun h21 => ?_)
        · replace hf := it_f hf (cv_ngt h21)
          obtain rfl := so1 hf
          exact hF9 rfl
        · replace hf := it_t hf (cv_gt h21)
          obtain rfl := so1 hf
          exact hT8 rfl
  replace hf := hx2
  clear hx2
  refine g_iload_n hE dX7_set_0 rfl ?_
  refine g_if_ne 32 hE dX7_set_1 (by decide) (fun h22 => ?_) (fun h22 => ?_)
  · replace hf := it_f hf h22
    obtain rfl := so1 hf
    exact hF4 rfl
  · replace hf := it_t hf h22
    refine g_iload_n hE dX7_set_4 rfl ?_
    refine g_if_lt 32 hE dX7_set_5 (by decide) (fun h23 => ?_) (fun h23 => ?_)
    · replace hf := it_f hf (cv_nge h23)
      obtain rfl := so1 hf
      exact hF4 rfl
    · replace hf := it_t hf (cv_ge h23)
      refine g_iload_n hE dX7_set_8 rfl ?_
      refine g_iconst hE (4) dX7_set_9 (by decide) ?_
      refine g_icmp_gt 32 hE dX7_set_10 (by decide) (fun h24 => ?_) (fun h24 => ?_)
      · replace hf := it_f hf (cv_nge h24)
        obtain rfl := so1 hf
        exact hF4 rfl
      · replace hf := it_t hf (cv_ge h24)
        obtain rfl := so1 hf
        exact hT3 rfl
set_option maxHeartbeats 4000000 in
set_option maxRecDepth 100000 in
theorem c_X0_add {l : Launch} {w : WC} {t : Nat} {inWeek_ : Int32} {number_ : Int32} {z : Sg} {r0 : Int32} {z0 : Sg} (hkt : kd false t = KX0) (hf : f_X0_add t inWeek_ number_ z = some (r0, z0)) : CT false l iX0_add w [.ref t, .int inWeek_, .int number_] z (some (.int r0)) z0 := by
  refine ct_of 0 (lv := [some (.ref t), some (.int inWeek_), some (.int number_)]) (by decide +kernel) rfl (Nat.le_of_ble_eq_true rfl) rfl (fun M hl hw hE => ?_)
  subst hl
  subst hw
  unfold f_X0_add at hf
  obtain ⟨q1, hx2, hf⟩ := b1_of hf
  have hT3 : q1 = true → G false iX0_add M (some (.int r0), z0) 18 [some (.ref t), some (.int inWeek_), some (.int number_)] [] z := by
    intro hq5
    replace hf := it_t hf hq5
    refine g_bipush hE (-2) dX0_add_18 (by decide) ?_
    obtain ⟨rfl, rfl⟩ := so2 hf
    exact g_iret hE rfl dX0_add_20
  have hF4 : q1 = false → G false iX0_add M (some (.int r0), z0) 21 [some (.ref t), some (.int inWeek_), some (.int number_)] [] z := by
    intro hq5
    replace hf := it_f hf (by rw [hq5]; decide)
    refine g_aload_n hE dX0_add_21 rfl ?_
    refine gtX0_2 hE hkt wf_RX0_22 dX0_add_22 ?_
    refine g_bipush hE (12) dX0_add_25 (by decide) ?_
    refine g_icmp_lt 33 hE dX0_add_27 (by decide) (fun h6 => ?_) (fun h6 => ?_)
    · replace hf := it_f hf (cv_nge h6)
      refine g_aload_n hE dX0_add_33 rfl ?_
      refine gtX0_0 hE hkt wf_RX0_9 dX0_add_34 ?_
      refine g_aload_n hE dX0_add_37 rfl ?_
      refine gtX0_2 hE hkt wf_RX0_22 dX0_add_38 ?_
      refine g_iload_n hE dX0_add_41 rfl ?_
      obtain ⟨h7, hf⟩ := ck_of hf
      refine g_iast hE (rlX0_0 hkt) h7 dX0_add_42 ?_
      refine g_aload_n hE dX0_add_43 rfl ?_
      refine gtX0_1 hE hkt wf_RX0_15 dX0_add_44 ?_
      refine g_aload_n hE dX0_add_47 rfl ?_
      refine gtX0_2 hE hkt wf_RX0_22 dX0_add_48 ?_
      refine g_iload_n hE dX0_add_51 rfl ?_
      obtain ⟨h8, hf⟩ := ck_of hf
      refine g_iast hE (rlX0_1 hkt) h8 dX0_add_52 ?_
      refine g_aload_n hE dX0_add_53 rfl ?_
      refine g_dup hE dX0_add_54 rfl ?_
      refine gtX0_2 hE hkt wf_RX0_22 dX0_add_55 ?_
      refine g_iconst hE (1) dX0_add_58 (by decide) ?_
      refine g_iadd hE dX0_add_59 ?_
      refine ptX0_2 hE hkt wf_RX0_22 dX0_add_60 ?_
      refine g_aload_n hE dX0_add_63 rfl ?_
      refine gtX0_2 hE hkt wf_RX0_22 dX0_add_64 ?_
      obtain ⟨rfl, rfl⟩ := so2 hf
      exact g_iret hE rfl dX0_add_67
    · replace hf := it_t hf (cv_ge h6)
      refine g_bipush hE (-4) dX0_add_30 (by decide) ?_
      obtain ⟨rfl, rfl⟩ := so2 hf
      exact g_iret hE rfl dX0_add_32
  replace hf := hx2
  clear hx2
  refine g_iload_n hE dX0_add_0 rfl ?_
  refine g_bipush hE (40) dX0_add_1 (by decide) ?_
  obtain ⟨r10, hc9, hf⟩ := b1_of hf
  refine g_callN2r hE ms_X7_outside wn_RX0_18 (by decide) (Nat.le_of_ble_eq_true rfl) dX0_add_3 (c_X7_outside hc9) ?_
  refine g_if_ne 18 hE dX0_add_6 (by decide) (fun h11 => ?_) (fun h11 => ?_)
  · replace hf := it_t hf h11
    obtain rfl := so1 hf
    exact hT3 rfl
  · replace hf := it_f hf (fun q => q h11)
    refine g_iload_n hE dX0_add_9 rfl ?_
    refine g_bipush hE (8) dX0_add_10 (by decide) ?_
    obtain ⟨r13, hc12, hf⟩ := b1_of hf
    refine g_callN2r hE ms_X7_outside wn_RX0_18 (by decide) (Nat.le_of_ble_eq_true rfl) dX0_add_12 (c_X7_outside hc12) ?_
    refine g_if_eq 21 hE dX0_add_15 (by decide) (fun h14 => ?_) (fun h14 => ?_)
    · replace hf := it_f hf (fun q => q h14)
      obtain rfl := so1 hf
      exact hF4 rfl
    · replace hf := it_t hf h14
      obtain rfl := so1 hf
      exact hT3 rfl
set_option maxHeartbeats 4000000 in
set_option maxRecDepth 100000 in
theorem c_X7_handing {l : Launch} {w : WC} {week_ : Int32} {virtue_ : Int32} {z : Sg} {r0 : Int32} {z0 : Sg} (hf : f_X7_handing week_ virtue_ z = some (r0, z0)) : CT false l iX7_handing w [.ref 0, .int week_, .int virtue_] z (some (.int r0)) z0 := by
  refine ct_of 0 (lv := [some (.ref 0), some (.int week_), some (.int virtue_)]) (by decide +kernel) rfl (Nat.le_of_ble_eq_true rfl) rfl (fun M hl hw hE => ?_)
  subst hl
  subst hw
  unfold f_X7_handing at hf
  refine g_aload_n hE dX7_handing_0 rfl ?_
  refine g_iconst hE (0) dX7_handing_1 (by decide) ?_
  refine ptX7_10 hE kX_0 wf_RX7_128 rfl rfl dX7_handing_2 ?_
  refine g_aload_n hE dX7_handing_5 rfl ?_
  refine gtX7_3 hE kX_0 wf_RX7_33 dX7_handing_6 ?_
  refine g_iload_n hE dX7_handing_9 rfl ?_
  refine g_iload_n hE dX7_handing_10 rfl ?_
  obtain ⟨r3, z2, hc1, hf⟩ := b2_of hf
  refine g_callV2r hE mv_X0_add kX_10 rfl wm_RX7_132 (by decide) (Nat.le_of_ble_eq_true rfl) dX7_handing_11 (c_X0_add kX_10 hc1) ?_
  obtain ⟨rfl, rfl⟩ := so2 hf
  exact g_iret hE rfl dX7_handing_14
set_option maxHeartbeats 4000000 in
set_option maxRecDepth 100000 in
theorem c_X7_claim {l : Launch} {w : WC} {week_ : Int32} {claimant_ : Int32} {z : Sg} {r0 : Int32} {z0 : Sg} (hf : f_X7_claim week_ claimant_ z = some (r0, z0)) : CT false l iX7_claim w [.ref 0, .int week_, .int claimant_] z (some (.int r0)) z0 := by
  refine ct_of 0 (lv := [some (.ref 0), some (.int week_), some (.int claimant_)]) (by decide +kernel) rfl (Nat.le_of_ble_eq_true rfl) rfl (fun M hl hw hE => ?_)
  subst hl
  subst hw
  unfold f_X7_claim at hf
  refine g_aload_n hE dX7_claim_0 rfl ?_
  refine g_iconst hE (0) dX7_claim_1 (by decide) ?_
  refine ptX7_10 hE kX_0 wf_RX7_128 rfl rfl dX7_claim_2 ?_
  refine g_aload_n hE dX7_claim_5 rfl ?_
  refine gtX7_4 hE kX_0 wf_RX7_37 dX7_claim_6 ?_
  refine g_iload_n hE dX7_claim_9 rfl ?_
  refine g_iload_n hE dX7_claim_10 rfl ?_
  obtain ⟨r3, z2, hc1, hf⟩ := b2_of hf
  refine g_callV2r hE mv_X0_add kX_13 rfl wm_RX7_132 (by decide) (Nat.le_of_ble_eq_true rfl) dX7_claim_11 (c_X0_add kX_13 hc1) ?_
  obtain ⟨rfl, rfl⟩ := so2 hf
  exact g_iret hE rfl dX7_claim_14
set_option maxHeartbeats 4000000 in
set_option maxRecDepth 100000 in
theorem c_X7_back {l : Launch} {w : WC} {what_ : Int32} {z : Sg} {r0 : Int32} {z0 : Sg} (hf : f_X7_back what_ z = some (r0, z0)) : CT false l iX7_back w [.ref 0, .int what_] z (some (.int r0)) z0 := by
  refine ct_of 1 (lv := [some (.ref 0), some (.int what_), none]) (by decide +kernel) rfl (Nat.le_of_ble_eq_true rfl) rfl (fun M hl hw hE => ?_)
  subst hl
  subst hw
  unfold f_X7_back at hf
  refine g_iload_n hE dX7_back_0 rfl ?_
  refine g_iconst hE (2) dX7_back_1 (by decide) ?_
  obtain ⟨r2, hc1, hf⟩ := b1_of hf
  refine g_callS2r hE ms_X7_outside wm_RX7_73 (by decide) (Nat.le_of_ble_eq_true rfl) dX7_back_2 (c_X7_outside hc1) ?_
  refine g_if_eq 11 hE dX7_back_5 (by decide) (fun h3 => ?_) (fun h3 => ?_)
  · replace hf := it_f hf (fun q => q h3)
    obtain ⟨x4, hx5, hf⟩ := b1_of hf
    have hJ6 : G false iX7_back M (some (.int r0), z0) 26 [some (.ref 0), some (.int what_), none] [.ref x4] z := by
      obtain ⟨hk7, hf⟩ := ck_of hf
      refine g_astore_n [some _, some _, some _] hE dX7_back_26 (by decide) rfl ?_
      refine g_aload_n hE dX7_back_27 rfl ?_
      refine gtX0_2 hE hk7 wf_RX7_135 dX7_back_28 ?_
      refine g_if_ne 37 hE dX7_back_31 (by decide) (fun h8 => ?_) (fun h8 => ?_)
      · replace hf := it_f hf h8
        refine g_aload_n hE dX7_back_37 rfl ?_
        refine g_iconst hE (0) dX7_back_38 (by decide) ?_
        refine ptX7_10 hE kX_0 wf_RX7_128 rfl rfl dX7_back_39 ?_
        refine g_aload_n hE dX7_back_42 rfl ?_
        refine g_dup hE dX7_back_43 rfl ?_
        refine gtX0_2 hE hk7 wf_RX7_135 dX7_back_44 ?_
        refine g_iconst hE (1) dX7_back_47 (by decide) ?_
        refine g_isub hE dX7_back_48 ?_
        refine ptX0_2 hE hk7 wf_RX7_135 dX7_back_49 ?_
        refine g_aload_n hE dX7_back_52 rfl ?_
        refine gtX0_2 hE hk7 wf_RX7_135 dX7_back_53 ?_
        obtain ⟨rfl, rfl⟩ := so2 hf
        exact g_iret hE rfl dX7_back_56
      · replace hf := it_t hf h8
        refine g_bipush hE (-3) dX7_back_34 (by decide) ?_
        obtain ⟨rfl, rfl⟩ := so2 hf
        exact g_iret hE rfl dX7_back_36
    replace hf := hx5
    clear hx5
    refine g_iload_n hE dX7_back_11 rfl ?_
    refine g_if_ne 22 hE dX7_back_12 (by decide) (fun h9 => ?_) (fun h9 => ?_)
    · replace hf := it_f hf h9
      refine g_aload_n hE dX7_back_22 rfl ?_
      refine gtX7_4 hE kX_0 wf_RX7_37 dX7_back_23 ?_
      obtain rfl := so1 hf
      exact hJ6
    · replace hf := it_t hf h9
      refine g_aload_n hE dX7_back_15 rfl ?_
      refine gtX7_3 hE kX_0 wf_RX7_33 dX7_back_16 ?_
      refine g_goto 26 hE dX7_back_19 (by decide) ?_
      obtain rfl := so1 hf
      exact hJ6
  · replace hf := it_t hf h3
    refine g_bipush hE (-2) dX7_back_8 (by decide) ?_
    obtain ⟨rfl, rfl⟩ := so2 hf
    exact g_iret hE rfl dX7_back_10
