set_option maxHeartbeats 4000000 in
set_option maxRecDepth 100000 in
theorem ct_X5_become {Z : ZT} (hZ : ZOk Z) {σ : Mem} {i0 : Nat} {i1 : Nat} (h0 : kn i0 = 5) (h1 : kn i1 = 5) {r : Mem} (hf : fX5_become σ i0 i1 = some r) : Ct Z yX5_become cX5_become 2 none 1 40 [.ref (za Z i0), .ref (za Z i1)] σ none True r := by
  refine ct_v hZ (by decide +kernel) (Nat.le_of_ble_eq_true rfl) hf (fun C K O hN hR hf => ?_)
  have O : Ok Z C RX5 cX5_become 2 1 40 := O
  change G Z C σ 0 [(0, .ref (za Z i0)), (1, .ref (za Z i1))] []
  unfold fX5_become at hf
  refine g_aload_n O dX5_become_0 0 rfl rfl ?_
  refine g_aload_n O dX5_become_1 1 rfl rfl ?_
  refine g_getI O dX5_become_2 fx_RX5_21 h1 ?_
  refine g_aload_n O dX5_become_5 0 rfl rfl ?_
  refine g_getR O dX5_become_6 fx_RX5_15 h0 ?_
  refine g_alen O dX5_become_9 (kf_5_0 h0) (by decide) ?_
  refine g_mmin O dX5_become_10 lm_RX5_25 mm_min.1 mm_min.2.1 mm_min.2.2 (by decide) (Nat.le_of_ble_eq_true rfl) ?_
  refine g_putI O dX5_become_13 fp_RX5_21 h0 hf (fun m1 hf => ?_)
  refine g_aload_n O dX5_become_16 1 rfl rfl ?_
  refine g_getR O dX5_become_17 fx_RX5_15 h1 ?_
  refine g_iconst O dX5_become_20 (0 : Int32) (by decide) ?_
  refine g_aload_n O dX5_become_21 0 rfl rfl ?_
  refine g_getR O dX5_become_22 fx_RX5_15 h0 ?_
  refine g_iconst O dX5_become_25 (0 : Int32) (by decide) ?_
  refine g_aload_n O dX5_become_26 0 rfl rfl ?_
  refine g_getI O dX5_become_27 fx_RX5_21 h0 ?_
  refine g_copy O hN dX5_become_30 lm_RX5_28 mm_copy.1 mm_copy.2.1 mm_copy.2.2 (kf_5_0 h1) (kf_5_0 h0) (by decide) (by decide) (Nat.le_of_ble_eq_true rfl) hf (fun m2 hf => ?_)
  exact hR _ hf _ _ dX5_become_33

set_option maxHeartbeats 4000000 in
set_option maxRecDepth 100000 in
theorem ct_X10_begin {Z : ZT} (hZ : ZOk Z) {σ : Mem} {i0 : Nat} {i1 : Nat} {p2 : Int32} {p3 : Int32} {p4 : Int32} (h0 : kn i0 = 10) (h1 : kn i1 = 5) {r : Mem} (hf : fX10_begin σ i0 i1 p2 p3 p4 = some r) : Ct Z yX10_begin cX10_begin 5 none 2 61 [.ref (za Z i0), .ref (za Z i1), .int p2, .int p3, .int p4] σ none True r := by
  refine ct_v hZ (by decide +kernel) (Nat.le_of_ble_eq_true rfl) hf (fun C K O hN hR hf => ?_)
  have O : Ok Z C RX10 cX10_begin 5 2 61 := O
  change G Z C σ 0 [(0, .ref (za Z i0)), (1, .ref (za Z i1)), (2, .int p2), (3, .int p3), (4, .int p4)] []
  unfold fX10_begin at hf
  refine g_aload_n O dX10_begin_0 0 rfl rfl ?_
  refine g_getR O dX10_begin_1 fx_RX10_14 h0 ?_
  refine g_aload_n O dX10_begin_4 1 rfl rfl ?_
  obtain ⟨q1, hq1, hf⟩ := k_obd hN hf
  refine g_callV (rest := []) O dX10_begin_5 (ct_X5_become hZ (kf_10_1 h0) h1 hq1) vx_RX10_37 (kf_10_1 h0) rfl rfl (by decide) (Nat.le_of_ble_eq_true rfl) (fun hp2 => ?_)
  change G Z C q1 8 [(0, .ref (za Z i0)), (1, .ref (za Z i1)), (2, .int p2), (3, .int p3), (4, .int p4)] []
  refine g_aload_n O dX10_begin_8 0 rfl rfl ?_
  refine g_iload_n O dX10_begin_9 2 rfl rfl ?_
  refine g_putI O dX10_begin_10 fp_RX10_24 h0 hf (fun m3 hf => ?_)
  refine g_aload_n O dX10_begin_13 0 rfl rfl ?_
  refine g_iload_n O dX10_begin_14 3 rfl rfl ?_
  refine g_putI O dX10_begin_15 fp_RX10_27 h0 hf (fun m4 hf => ?_)
  refine g_aload_n O dX10_begin_18 0 rfl rfl ?_
  refine g_iload O dX10_begin_19 4 rfl ?_
  refine g_putI O dX10_begin_21 fp_RX10_30 h0 hf (fun m5 hf => ?_)
  exact hR _ hf _ _ dX10_begin_24

set_option maxHeartbeats 4000000 in
set_option maxRecDepth 100000 in
theorem ct_X10_become {Z : ZT} (hZ : ZOk Z) {σ : Mem} {i0 : Nat} {i1 : Nat} (h0 : kn i0 = 10) (h1 : kn i1 = 10) {r : Mem} (hf : fX10_become σ i0 i1 = some r) : Ct Z yX10_become cX10_become 2 none 3 85 [.ref (za Z i0), .ref (za Z i1)] σ none True r := by
  refine ct_v hZ (by decide +kernel) (Nat.le_of_ble_eq_true rfl) hf (fun C K O hN hR hf => ?_)
  have O : Ok Z C RX10 cX10_become 2 3 85 := O
  change G Z C σ 0 [(0, .ref (za Z i0)), (1, .ref (za Z i1))] []
  unfold fX10_become at hf
  refine g_aload_n O dX10_become_0 0 rfl rfl ?_
  refine g_aload_n O dX10_become_1 1 rfl rfl ?_
  refine g_getR O dX10_become_2 fx_RX10_14 h1 ?_
  refine g_aload_n O dX10_become_5 1 rfl rfl ?_
  refine g_getI O dX10_become_6 fx_RX10_24 h1 ?_
  refine g_aload_n O dX10_become_9 1 rfl rfl ?_
  refine g_getI O dX10_become_10 fx_RX10_27 h1 ?_
  refine g_aload_n O dX10_become_13 1 rfl rfl ?_
  refine g_getI O dX10_become_14 fx_RX10_30 h1 ?_
  obtain ⟨q1, hq1, hf⟩ := k_obd hN hf
  refine g_callV (rest := []) O dX10_become_17 (ct_X10_begin hZ h0 (kf_10_1 h1) hq1) vx_RX10_33 h0 rfl rfl (by decide) (Nat.le_of_ble_eq_true rfl) (fun hp2 => ?_)
  change G Z C q1 20 [(0, .ref (za Z i0)), (1, .ref (za Z i1))] []
  exact hR _ hf _ _ dX10_become_20

set_option maxHeartbeats 4000000 in
set_option maxRecDepth 100000 in
theorem ct_X2_become {Z : ZT} (hZ : ZOk Z) {σ : Mem} {i0 : Nat} {i1 : Nat} (h0 : kn i0 = 2) (h1 : kn i1 = 2) {r : Mem} (hf : fX2_become σ i0 i1 = some r) : Ct Z yX2_become cX2_become 2 none 1 40 [.ref (za Z i0), .ref (za Z i1)] σ none True r := by
  refine ct_v hZ (by decide +kernel) (Nat.le_of_ble_eq_true rfl) hf (fun C K O hN hR hf => ?_)
  have O : Ok Z C RX2 cX2_become 2 1 40 := O
  change G Z C σ 0 [(0, .ref (za Z i0)), (1, .ref (za Z i1))] []
  unfold fX2_become at hf
  refine g_aload_n O dX2_become_0 0 rfl rfl ?_
  refine g_aload_n O dX2_become_1 1 rfl rfl ?_
  refine g_getI O dX2_become_2 fx_RX2_9 h1 ?_
  refine g_putI O dX2_become_5 fp_RX2_9 h0 hf (fun m1 hf => ?_)
  refine g_aload_n O dX2_become_8 0 rfl rfl ?_
  refine g_aload_n O dX2_become_9 1 rfl rfl ?_
  refine g_getI O dX2_become_10 fx_RX2_19 h1 ?_
  refine g_putI O dX2_become_13 fp_RX2_19 h0 hf (fun m2 hf => ?_)
  refine g_aload_n O dX2_become_16 0 rfl rfl ?_
  refine g_aload_n O dX2_become_17 1 rfl rfl ?_
  refine g_getI O dX2_become_18 fx_RX2_22 h1 ?_
  refine g_putI O dX2_become_21 fp_RX2_22 h0 hf (fun m3 hf => ?_)
  refine g_aload_n O dX2_become_24 1 rfl rfl ?_
  refine g_getR O dX2_become_25 fx_RX2_15 h1 ?_
  refine g_iconst O dX2_become_28 (0 : Int32) (by decide) ?_
  refine g_aload_n O dX2_become_29 0 rfl rfl ?_
  refine g_getR O dX2_become_30 fx_RX2_15 h0 ?_
  refine g_iconst O dX2_become_33 (0 : Int32) (by decide) ?_
  refine g_bipush O dX2_become_34 (6 : Int32) (by decide) ?_
  refine g_copy O hN dX2_become_36 lm_RX2_31 mm_copy.1 mm_copy.2.1 mm_copy.2.2 (kf_2_3 h1) (kf_2_3 h0) (by decide) (by decide) (Nat.le_of_ble_eq_true rfl) hf (fun m4 hf => ?_)
  exact hR _ hf _ _ dX2_become_39

set_option maxHeartbeats 4000000 in
set_option maxRecDepth 100000 in
theorem ct_X3_become {Z : ZT} (hZ : ZOk Z) {σ : Mem} {i0 : Nat} {i1 : Nat} (h0 : kn i0 = 3) (h1 : kn i1 = 3) {r : Mem} (hf : fX3_become σ i0 i1 = some r) : Ct Z yX3_become cX3_become 2 none 1 40 [.ref (za Z i0), .ref (za Z i1)] σ none True r := by
  refine ct_v hZ (by decide +kernel) (Nat.le_of_ble_eq_true rfl) hf (fun C K O hN hR hf => ?_)
  have O : Ok Z C RX3 cX3_become 2 1 40 := O
  change G Z C σ 0 [(0, .ref (za Z i0)), (1, .ref (za Z i1))] []
  unfold fX3_become at hf
  refine g_aload_n O dX3_become_0 0 rfl rfl ?_
  refine g_aload_n O dX3_become_1 1 rfl rfl ?_
  refine g_getI O dX3_become_2 fx_RX3_27 h1 ?_
  refine g_putI O dX3_become_5 fp_RX3_27 h0 hf (fun m1 hf => ?_)
  refine g_aload_n O dX3_become_8 1 rfl rfl ?_
  refine g_getR O dX3_become_9 fx_RX3_9 h1 ?_
  refine g_iconst O dX3_become_12 (0 : Int32) (by decide) ?_
  refine g_aload_n O dX3_become_13 0 rfl rfl ?_
  refine g_getR O dX3_become_14 fx_RX3_9 h0 ?_
  refine g_iconst O dX3_become_17 (0 : Int32) (by decide) ?_
  refine g_bipush O dX3_become_18 (6 : Int32) (by decide) ?_
  refine g_copy O hN dX3_become_20 lm_RX3_41 mm_copy.1 mm_copy.2.1 mm_copy.2.2 (kf_3_1 h1) (kf_3_1 h0) (by decide) (by decide) (Nat.le_of_ble_eq_true rfl) hf (fun m2 hf => ?_)
  refine g_aload_n O dX3_become_23 1 rfl rfl ?_
  refine g_getR O dX3_become_24 fx_RX3_15 h1 ?_
  refine g_iconst O dX3_become_27 (0 : Int32) (by decide) ?_
  refine g_aload_n O dX3_become_28 0 rfl rfl ?_
  refine g_getR O dX3_become_29 fx_RX3_15 h0 ?_
  refine g_iconst O dX3_become_32 (0 : Int32) (by decide) ?_
  refine g_bipush O dX3_become_33 (6 : Int32) (by decide) ?_
  refine g_copy O hN dX3_become_35 lm_RX3_41 mm_copy.1 mm_copy.2.1 mm_copy.2.2 (kf_3_2 h1) (kf_3_2 h0) (by decide) (by decide) (Nat.le_of_ble_eq_true rfl) hf (fun m3 hf => ?_)
  refine g_aload_n O dX3_become_38 1 rfl rfl ?_
  refine g_getR O dX3_become_39 fx_RX3_18 h1 ?_
  refine g_iconst O dX3_become_42 (0 : Int32) (by decide) ?_
  refine g_aload_n O dX3_become_43 0 rfl rfl ?_
  refine g_getR O dX3_become_44 fx_RX3_18 h0 ?_
  refine g_iconst O dX3_become_47 (0 : Int32) (by decide) ?_
  refine g_bipush O dX3_become_48 (6 : Int32) (by decide) ?_
  refine g_copy O hN dX3_become_50 lm_RX3_41 mm_copy.1 mm_copy.2.1 mm_copy.2.2 (kf_3_3 h1) (kf_3_3 h0) (by decide) (by decide) (Nat.le_of_ble_eq_true rfl) hf (fun m4 hf => ?_)
  refine g_aload_n O dX3_become_53 1 rfl rfl ?_
  refine g_getR O dX3_become_54 fx_RX3_21 h1 ?_
  refine g_iconst O dX3_become_57 (0 : Int32) (by decide) ?_
  refine g_aload_n O dX3_become_58 0 rfl rfl ?_
  refine g_getR O dX3_become_59 fx_RX3_21 h0 ?_
  refine g_iconst O dX3_become_62 (0 : Int32) (by decide) ?_
  refine g_bipush O dX3_become_63 (6 : Int32) (by decide) ?_
  refine g_copy O hN dX3_become_65 lm_RX3_41 mm_copy.1 mm_copy.2.1 mm_copy.2.2 (kf_3_4 h1) (kf_3_4 h0) (by decide) (by decide) (Nat.le_of_ble_eq_true rfl) hf (fun m5 hf => ?_)
  refine g_aload_n O dX3_become_68 1 rfl rfl ?_
  refine g_getR O dX3_become_69 fx_RX3_24 h1 ?_
  refine g_iconst O dX3_become_72 (0 : Int32) (by decide) ?_
  refine g_aload_n O dX3_become_73 0 rfl rfl ?_
  refine g_getR O dX3_become_74 fx_RX3_24 h0 ?_
  refine g_iconst O dX3_become_77 (0 : Int32) (by decide) ?_
  refine g_iconst O dX3_become_78 (3 : Int32) (by decide) ?_
  refine g_copy O hN dX3_become_79 lm_RX3_41 mm_copy.1 mm_copy.2.1 mm_copy.2.2 (kf_3_5 h1) (kf_3_5 h0) (by decide) (by decide) (Nat.le_of_ble_eq_true rfl) hf (fun m6 hf => ?_)
  exact hR _ hf _ _ dX3_become_82

set_option maxHeartbeats 4000000 in
set_option maxRecDepth 100000 in
theorem ct_X0_become {Z : ZT} (hZ : ZOk Z) {σ : Mem} {i0 : Nat} {i1 : Nat} (h0 : kn i0 = 0) (h1 : kn i1 = 0) {r : Mem} (hf : fX0_become σ i0 i1 = some r) : Ct Z yX0_become cX0_become 3 none 4 106 [.ref (za Z i0), .ref (za Z i1)] σ none True r := by
  refine ct_v hZ (by decide +kernel) (Nat.le_of_ble_eq_true rfl) hf (fun C K O hN hR hf => ?_)
  have O : Ok Z C RX0 cX0_become 3 4 106 := O
  change G Z C σ 0 [(0, .ref (za Z i0)), (1, .ref (za Z i1))] []
  unfold fX0_become at hf
  refine g_iconst O dX0_become_0 (0 : Int32) (by decide) ?_
  refine g_istore_nP O dX0_become_1 rfl (by decide) [(2, .int (0 : Int32)), (0, .ref (za Z i0)), (1, .ref (za Z i1))] rfl ?_
  refine g_lp hN (fun (a1 : Int32 × Mem) => G Z C a1.2 2 [(2, .int a1.1), (0, .ref (za Z i0)), (1, .ref (za Z i1))] []) hf (fun a1 _ hN1 hI1 hX1 hf => ?_)
  unfold sX0_become_2 at hf
  refine g_iload_n O dX0_become_2 0 rfl rfl ?_
  refine g_aload_n O dX0_become_3 1 rfl rfl ?_
  refine g_getR O dX0_become_4 fx_RX0_11 h0 ?_
  refine g_alen O dX0_become_7 (kf_0_0 h0) (by decide) ?_
  refine g_icmp_ge 32 O dX0_become_8 (by decide) hf (fun c2 hf => ?_) (fun c2 hf => ?_)
  · have hf := hX1 _ hf
    refine g_aload_n O dX0_become_32 1 rfl rfl ?_
    refine g_aload_n O dX0_become_33 2 rfl rfl ?_
    refine g_getI O dX0_become_34 fx_RX0_55 h1 ?_
    refine g_putI O dX0_become_37 fp_RX0_55 h0 hf (fun m3 hf => ?_)
    refine g_iconst O dX0_become_40 (0 : Int32) (by decide) ?_
    refine g_istore_nP O dX0_become_41 rfl (by decide) [(2, .int (0 : Int32)), (0, .ref (za Z i0)), (1, .ref (za Z i1))] rfl ?_
    refine g_lp hN (fun (a4 : Int32 × Mem) => G Z C a4.2 42 [(2, .int a4.1), (0, .ref (za Z i0)), (1, .ref (za Z i1))] []) hf (fun a4 _ hN4 hI4 hX4 hf => ?_)
    unfold sX0_become_42 at hf
    refine g_iload_n O dX0_become_42 0 rfl rfl ?_
    refine g_aload_n O dX0_become_43 1 rfl rfl ?_
    refine g_getR O dX0_become_44 fx_RX0_19 h0 ?_
    refine g_alen O dX0_become_47 (kf_0_2 h0) (by decide) ?_
    refine g_icmp_ge 72 O dX0_become_48 (by decide) hf (fun c5 hf => ?_) (fun c5 hf => ?_)
    · have hf := hX4 _ hf
      refine g_iconst O dX0_become_72 (0 : Int32) (by decide) ?_
      refine g_istore_nP O dX0_become_73 rfl (by decide) [(2, .int (0 : Int32)), (0, .ref (za Z i0)), (1, .ref (za Z i1))] rfl ?_
      refine g_lp hN (fun (a6 : Int32 × Mem) => G Z C a6.2 74 [(2, .int a6.1), (0, .ref (za Z i0)), (1, .ref (za Z i1))] []) hf (fun a6 _ hN6 hI6 hX6 hf => ?_)
      unfold sX0_become_74 at hf
      refine g_iload_n O dX0_become_74 0 rfl rfl ?_
      refine g_aload_n O dX0_become_75 1 rfl rfl ?_
      refine g_getR O dX0_become_76 fx_RX0_28 h0 ?_
      refine g_alen O dX0_become_79 (kf_0_4 h0) (by decide) ?_
      refine g_icmp_ge 104 O dX0_become_80 (by decide) hf (fun c7 hf => ?_) (fun c7 hf => ?_)
      · have hf := hX6 _ hf
        refine g_aload_n O dX0_become_104 1 rfl rfl ?_
        refine g_aload_n O dX0_become_105 2 rfl rfl ?_
        refine g_getI O dX0_become_106 fx_RX0_65 h1 ?_
        refine g_putI O dX0_become_109 fp_RX0_65 h0 hf (fun m8 hf => ?_)
        refine g_aload_n O dX0_become_112 1 rfl rfl ?_
        refine g_getR O dX0_become_113 fx_RX0_35 h0 ?_
        refine g_aload_n O dX0_become_116 2 rfl rfl ?_
        refine g_getR O dX0_become_117 fx_RX0_35 h1 ?_
        obtain ⟨q9, hq9, hf⟩ := k_obd hN hf
        refine g_callV (rest := []) O dX0_become_120 (ct_X5_become hZ (kf_0_6 h0) (kf_0_6 h1) hq9) vx_RX0_59 (kf_0_6 h0) rfl rfl (by decide) (Nat.le_of_ble_eq_true rfl) (fun hp10 => ?_)
        change G Z C q9 123 [(2, .int a6.1), (0, .ref (za Z i0)), (1, .ref (za Z i1))] []
        refine g_aload_n O dX0_become_123 1 rfl rfl ?_
        refine g_getR O dX0_become_124 fx_RX0_42 h0 ?_
        refine g_aload_n O dX0_become_127 2 rfl rfl ?_
        refine g_getR O dX0_become_128 fx_RX0_42 h1 ?_
        obtain ⟨q11, hq11, hf⟩ := k_obd hN hf
        refine g_callV (rest := []) O dX0_become_131 (ct_X2_become hZ (kf_0_7 h0) (kf_0_7 h1) hq11) vx_RX0_68 (kf_0_7 h0) rfl rfl (by decide) (Nat.le_of_ble_eq_true rfl) (fun hp12 => ?_)
        change G Z C q11 134 [(2, .int a6.1), (0, .ref (za Z i0)), (1, .ref (za Z i1))] []
        exact hR _ hf _ _ dX0_become_134
      · refine g_aload_n O dX0_become_83 1 rfl rfl ?_
        refine g_getR O dX0_become_84 fx_RX0_28 h0 ?_
        refine g_iload_n O dX0_become_87 0 rfl rfl ?_
        refine g_aald O hN6 dX0_become_88 (kf_0_4 h0) (by decide) (el_22 (kf_0_4 h0)) hf (fun hb13 hf => ?_)
        refine g_aload_n O dX0_become_89 2 rfl rfl ?_
        refine g_getR O dX0_become_90 fx_RX0_28 h1 ?_
        refine g_iload_n O dX0_become_93 0 rfl rfl ?_
        refine g_aald O hN6 dX0_become_94 (kf_0_4 h1) (by decide) (el_22 (kf_0_4 h1)) hf (fun hb14 hf => ?_)
        obtain ⟨q15, hq15, hf⟩ := k_obd hN6 hf
        refine g_callV (rest := []) O dX0_become_95 (ct_X3_become hZ (ke_22 (kf_0_4 h0) (inb_lt hb13)) (ke_22 (kf_0_4 h1) (inb_lt hb14)) hq15) vx_RX0_62 (ke_22 (kf_0_4 h0) (inb_lt hb13)) rfl rfl (by decide) (Nat.le_of_ble_eq_true rfl) (fun hp16 => ?_)
        change G Z C q15 98 [(2, .int a6.1), (0, .ref (za Z i0)), (1, .ref (za Z i1))] []
        refine g_iinc O dX0_become_98 0 rfl (by decide) (1) (by decide) (fun y => [(2, .int y), (0, .ref (za Z i0)), (1, .ref (za Z i1))]) (fun _ => rfl) hf (fun x17 hf => ?_)
        refine g_goto 74 O dX0_become_101 (by decide) ?_
        exact hI6 _ hf
    · refine g_aload_n O dX0_become_51 1 rfl rfl ?_
      refine g_getR O dX0_become_52 fx_RX0_19 h0 ?_
      refine g_iload_n O dX0_become_55 0 rfl rfl ?_
      refine g_aald O hN4 dX0_become_56 (kf_0_2 h0) (by decide) (el_23 (kf_0_2 h0)) hf (fun hb18 hf => ?_)
      refine g_aload_n O dX0_become_57 2 rfl rfl ?_
      refine g_getR O dX0_become_58 fx_RX0_19 h1 ?_
      refine g_iload_n O dX0_become_61 0 rfl rfl ?_
      refine g_aald O hN4 dX0_become_62 (kf_0_2 h1) (by decide) (el_23 (kf_0_2 h1)) hf (fun hb19 hf => ?_)
      obtain ⟨q20, hq20, hf⟩ := k_obd hN4 hf
      refine g_callV (rest := []) O dX0_become_63 (ct_X5_become hZ (ke_23 (kf_0_2 h0) (inb_lt hb18)) (ke_23 (kf_0_2 h1) (inb_lt hb19)) hq20) vx_RX0_59 (ke_23 (kf_0_2 h0) (inb_lt hb18)) rfl rfl (by decide) (Nat.le_of_ble_eq_true rfl) (fun hp21 => ?_)
      change G Z C q20 66 [(2, .int a4.1), (0, .ref (za Z i0)), (1, .ref (za Z i1))] []
      refine g_iinc O dX0_become_66 0 rfl (by decide) (1) (by decide) (fun y => [(2, .int y), (0, .ref (za Z i0)), (1, .ref (za Z i1))]) (fun _ => rfl) hf (fun x22 hf => ?_)
      refine g_goto 42 O dX0_become_69 (by decide) ?_
      exact hI4 _ hf
  · refine g_aload_n O dX0_become_11 1 rfl rfl ?_
    refine g_getR O dX0_become_12 fx_RX0_11 h0 ?_
    refine g_iload_n O dX0_become_15 0 rfl rfl ?_
    refine g_aald O hN1 dX0_become_16 (kf_0_0 h0) (by decide) (el_26 (kf_0_0 h0)) hf (fun hb23 hf => ?_)
    refine g_aload_n O dX0_become_17 2 rfl rfl ?_
    refine g_getR O dX0_become_18 fx_RX0_11 h1 ?_
    refine g_iload_n O dX0_become_21 0 rfl rfl ?_
    refine g_aald O hN1 dX0_become_22 (kf_0_0 h1) (by decide) (el_26 (kf_0_0 h1)) hf (fun hb24 hf => ?_)
    obtain ⟨q25, hq25, hf⟩ := k_obd hN1 hf
    refine g_callV (rest := []) O dX0_become_23 (ct_X10_become hZ (ke_26 (kf_0_0 h0) (inb_lt hb23)) (ke_26 (kf_0_0 h1) (inb_lt hb24)) hq25) vx_RX0_51 (ke_26 (kf_0_0 h0) (inb_lt hb23)) rfl rfl (by decide) (Nat.le_of_ble_eq_true rfl) (fun hp26 => ?_)
    change G Z C q25 26 [(2, .int a1.1), (0, .ref (za Z i0)), (1, .ref (za Z i1))] []
    refine g_iinc O dX0_become_26 0 rfl (by decide) (1) (by decide) (fun y => [(2, .int y), (0, .ref (za Z i0)), (1, .ref (za Z i1))]) (fun _ => rfl) hf (fun x27 hf => ?_)
    refine g_goto 2 O dX0_become_29 (by decide) ?_
    exact hI1 _ hf

set_option maxHeartbeats 4000000 in
set_option maxRecDepth 100000 in
theorem ct_X0_wordAt {Z : ZT} (hZ : ZOk Z) {σ : Mem} {i0 : Nat} {p1 : Int32} (h0 : kn i0 = 0) {r : (Option Nat)} (hf : fX0_wordAt σ i0 p1 = some r) : Ct Z yX0_wordAt cX0_wordAt 2 (some (.object "PhraseMoods$Word")) 0 0 [.ref (za Z i0), .int p1] σ (some (rv Z r)) (∀ i, r = some i → kn i = 10) σ := by
  refine ct_a 10 hZ (by decide +kernel) (Nat.le_of_ble_eq_true rfl) hf (fun C K O hN hR0 hR1 hf => ?_)
  have O : Ok Z C RX0 cX0_wordAt 2 0 0 := O
  change G Z C σ 0 [(0, .ref (za Z i0)), (1, .int p1)] []
  unfold fX0_wordAt at hf
  refine g_iload_n O dX0_wordAt_0 1 rfl rfl ?_
  refine g_if_lt 21 O dX0_wordAt_1 (by decide) hf (fun c1 hf => ?_) (fun c1 hf => ?_)
  · refine g_null O dX0_wordAt_21 ?_
    exact hR0 hf _ _ dX0_wordAt_22
  · refine g_iload_n O dX0_wordAt_4 1 rfl rfl ?_
    refine g_aload_n O dX0_wordAt_5 0 rfl rfl ?_
    refine g_getI O dX0_wordAt_6 fx_RX0_55 h0 ?_
    refine g_icmp_ge 21 O dX0_wordAt_9 (by decide) hf (fun c2 hf => ?_) (fun c2 hf => ?_)
    · refine g_null O dX0_wordAt_21 ?_
      exact hR0 hf _ _ dX0_wordAt_22
    · refine g_aload_n O dX0_wordAt_12 0 rfl rfl ?_
      refine g_getR O dX0_wordAt_13 fx_RX0_11 h0 ?_
      refine g_iload_n O dX0_wordAt_16 1 rfl rfl ?_
      refine g_aald O hN dX0_wordAt_17 (kf_0_0 h0) (by decide) (el_26 (kf_0_0 h0)) hf (fun hb3 hf => ?_)
      refine g_goto 22 O dX0_wordAt_18 (by decide) ?_
      exact hR1 _ hf (ke_26 (kf_0_0 h0) (inb_lt hb3)) _ _ dX0_wordAt_22

set_option maxHeartbeats 4000000 in
set_option maxRecDepth 100000 in
theorem ct_X0_frameAt {Z : ZT} (hZ : ZOk Z) {σ : Mem} {i0 : Nat} {p1 : Int32} (h0 : kn i0 = 0) {r : (Option Nat)} (hf : fX0_frameAt σ i0 p1 = some r) : Ct Z yX0_frameAt cX0_frameAt 2 (some (.object "PhraseMoods$Frame")) 0 0 [.ref (za Z i0), .int p1] σ (some (rv Z r)) (∀ i, r = some i → kn i = 3) σ := by
  refine ct_a 3 hZ (by decide +kernel) (Nat.le_of_ble_eq_true rfl) hf (fun C K O hN hR0 hR1 hf => ?_)
  have O : Ok Z C RX0 cX0_frameAt 2 0 0 := O
  change G Z C σ 0 [(0, .ref (za Z i0)), (1, .int p1)] []
  unfold fX0_frameAt at hf
  refine g_iload_n O dX0_frameAt_0 1 rfl rfl ?_
  refine g_if_lt 21 O dX0_frameAt_1 (by decide) hf (fun c1 hf => ?_) (fun c1 hf => ?_)
  · refine g_null O dX0_frameAt_21 ?_
    exact hR0 hf _ _ dX0_frameAt_22
  · refine g_iload_n O dX0_frameAt_4 1 rfl rfl ?_
    refine g_aload_n O dX0_frameAt_5 0 rfl rfl ?_
    refine g_getI O dX0_frameAt_6 fx_RX0_65 h0 ?_
    refine g_icmp_ge 21 O dX0_frameAt_9 (by decide) hf (fun c2 hf => ?_) (fun c2 hf => ?_)
    · refine g_null O dX0_frameAt_21 ?_
      exact hR0 hf _ _ dX0_frameAt_22
    · refine g_aload_n O dX0_frameAt_12 0 rfl rfl ?_
      refine g_getR O dX0_frameAt_13 fx_RX0_28 h0 ?_
      refine g_iload_n O dX0_frameAt_16 1 rfl rfl ?_
      refine g_aald O hN dX0_frameAt_17 (kf_0_4 h0) (by decide) (el_22 (kf_0_4 h0)) hf (fun hb3 hf => ?_)
      refine g_goto 22 O dX0_frameAt_18 (by decide) ?_
      exact hR1 _ hf (ke_22 (kf_0_4 h0) (inb_lt hb3)) _ _ dX0_frameAt_22

set_option maxHeartbeats 4000000 in
set_option maxRecDepth 100000 in
theorem ct_X11_isBelow {Z : ZT} (hZ : ZOk Z) {σ : Mem} {p0 : Int32} {p1 : Int32}  {r : Int32} (hf : fX11_isBelow σ p0 p1 = some r) : Ct Z yX11_isBelow cX11_isBelow 2 (some .boolean) 0 0 [.int p0, .int p1] σ (some (.int r)) (r = 0 ∨ r = 1) σ := by
  refine ct_z hZ (by decide +kernel) (Nat.le_of_ble_eq_true rfl) hf (fun C K O hN hR hf => ?_)
  have O : Ok Z C RX11 cX11_isBelow 2 0 0 := O
  change G Z C σ 0 [(0, .int p0), (1, .int p1)] []
  unfold fX11_isBelow at hf
  refine g_iload_n O dX11_isBelow_0 0 rfl rfl ?_
  refine g_if_lt 13 O dX11_isBelow_1 (by decide) hf (fun c1 hf => ?_) (fun c1 hf => ?_)
  · refine g_iconst O dX11_isBelow_13 (0 : Int32) (by decide) ?_
    exact hR _ hf (Or.inl rfl) _ _ dX11_isBelow_14
  · refine g_iload_n O dX11_isBelow_4 0 rfl rfl ?_
    refine g_iload_n O dX11_isBelow_5 1 rfl rfl ?_
    refine g_icmp_ge 13 O dX11_isBelow_6 (by decide) hf (fun c2 hf => ?_) (fun c2 hf => ?_)
    · refine g_iconst O dX11_isBelow_13 (0 : Int32) (by decide) ?_
      exact hR _ hf (Or.inl rfl) _ _ dX11_isBelow_14
    · refine g_iconst O dX11_isBelow_9 (1 : Int32) (by decide) ?_
      refine g_goto 14 O dX11_isBelow_10 (by decide) ?_
      exact hR _ hf (Or.inr rfl) _ _ dX11_isBelow_14

set_option maxHeartbeats 4000000 in
set_option maxRecDepth 100000 in
theorem ct_X0_endingAt {Z : ZT} (hZ : ZOk Z) {σ : Mem} {i0 : Nat} {p1 : Int32} {p2 : Int32} {p3 : Int32} (h0 : kn i0 = 0) {r : (Option Nat)} (hf : fX0_endingAt σ i0 p1 p2 p3 = some r) : Ct Z yX0_endingAt cX0_endingAt 5 (some (.object "PhraseMoods$Letters")) 1 21 [.ref (za Z i0), .int p1, .int p2, .int p3] σ (some (rv Z r)) (∀ i, r = some i → kn i = 5) σ := by
  refine ct_a 5 hZ (by decide +kernel) (Nat.le_of_ble_eq_true rfl) hf (fun C K O hN hR0 hR1 hf => ?_)
  have O : Ok Z C RX0 cX0_endingAt 5 1 21 := O
  change G Z C σ 0 [(0, .ref (za Z i0)), (1, .int p1), (2, .int p2), (3, .int p3)] []
  unfold fX0_endingAt at hf
  refine g_iload_n O dX0_endingAt_0 1 rfl rfl ?_
  refine g_iconst O dX0_endingAt_1 (4 : Int32) (by decide) ?_
  obtain ⟨q1, hq1, hf⟩ := k_obd hN hf
  refine g_callS (rest := []) O dX0_endingAt_2 (ct_X11_isBelow hZ  hq1) sx_RX0_71 rfl rfl (by decide) (Nat.le_of_ble_eq_true rfl) (fun hp2 => ?_)
  change G Z C σ 5 [(0, .ref (za Z i0)), (1, .int p1), (2, .int p2), (3, .int p3)] [.int q1]
  refine g_jn (fun (y3 : Int32) => G Z C σ 29 [(0, .ref (za Z i0)), (1, .int p1), (2, .int p2), (3, .int p3)] [.int y3]) hf (fun y3 hf => ?_) (fun k3 hk3 hf => ?_)
  · refine g_istoreP O dX0_endingAt_29 (by decide) [(4, .int y3), (0, .ref (za Z i0)), (1, .int p1), (2, .int p2), (3, .int p3)] rfl ?_
    refine g_iload O dX0_endingAt_31 0 rfl ?_
    refine g_if_eq 53 O dX0_endingAt_33 (by decide) hf (fun c4 hf => ?_) (fun c4 hf => ?_)
    · refine g_null O dX0_endingAt_53 ?_
      exact hR0 hf _ _ dX0_endingAt_54
    · refine g_aload_n O dX0_endingAt_36 1 rfl rfl ?_
      refine g_getR O dX0_endingAt_37 fx_RX0_19 h0 ?_
      refine g_iload_n O dX0_endingAt_40 2 rfl rfl ?_
      refine g_iconst O dX0_endingAt_41 (4 : Int32) (by decide) ?_
      refine g_imul O dX0_endingAt_42 ?_
      refine g_iload_n O dX0_endingAt_43 3 rfl rfl ?_
      refine g_iadd O dX0_endingAt_44 ?_
      refine g_iconst O dX0_endingAt_45 (2 : Int32) (by decide) ?_
      refine g_imul O dX0_endingAt_46 ?_
      refine g_iload_n O dX0_endingAt_47 4 rfl rfl ?_
      refine g_iadd O dX0_endingAt_48 ?_
      refine g_aald O hN dX0_endingAt_49 (kf_0_2 h0) (by decide) (el_23 (kf_0_2 h0)) hf (fun hb5 hf => ?_)
      refine g_goto 54 O dX0_endingAt_50 (by decide) ?_
      exact hR1 _ hf (ke_23 (kf_0_2 h0) (inb_lt hb5)) _ _ dX0_endingAt_54
  · skip
    refine g_jn (fun (y6 : Unit) => G Z C σ 28 [(0, .ref (za Z i0)), (1, .int p1), (2, .int p2), (3, .int p3)] []) hf (fun y6 hf => ?_) (fun k6 hk6 hf => ?_)
    · refine g_iconst O dX0_endingAt_28 (0 : Int32) (by decide) ?_
      exact hk3 _ hf
    · skip
      refine g_if_eq 28 O dX0_endingAt_5 (by decide) hf (fun c7 hf => ?_) (fun c7 hf => ?_)
      · exact hk6 _ hf
      · refine g_iload_n O dX0_endingAt_8 2 rfl rfl ?_
        refine g_iconst O dX0_endingAt_9 (4 : Int32) (by decide) ?_
        obtain ⟨q8, hq8, hf⟩ := k_obd hN hf
        refine g_callS (rest := []) O dX0_endingAt_10 (ct_X11_isBelow hZ  hq8) sx_RX0_71 rfl rfl (by decide) (Nat.le_of_ble_eq_true rfl) (fun hp9 => ?_)
        change G Z C σ 13 [(0, .ref (za Z i0)), (1, .int p1), (2, .int p2), (3, .int p3)] [.int q8]
        refine g_if_eq 28 O dX0_endingAt_13 (by decide) hf (fun c10 hf => ?_) (fun c10 hf => ?_)
        · exact hk6 _ hf
        · refine g_iload_n O dX0_endingAt_16 3 rfl rfl ?_
          refine g_iconst O dX0_endingAt_17 (2 : Int32) (by decide) ?_
          obtain ⟨q11, hq11, hf⟩ := k_obd hN hf
          refine g_callS (rest := []) O dX0_endingAt_18 (ct_X11_isBelow hZ  hq11) sx_RX0_71 rfl rfl (by decide) (Nat.le_of_ble_eq_true rfl) (fun hp12 => ?_)
          change G Z C σ 21 [(0, .ref (za Z i0)), (1, .int p1), (2, .int p2), (3, .int p3)] [.int q11]
          refine g_if_eq 28 O dX0_endingAt_21 (by decide) hf (fun c13 hf => ?_) (fun c13 hf => ?_)
          · exact hk6 _ hf
          · refine g_iconst O dX0_endingAt_24 (1 : Int32) (by decide) ?_
            refine g_goto 29 O dX0_endingAt_25 (by decide) ?_
            exact hk3 _ hf

set_option maxHeartbeats 4000000 in
set_option maxRecDepth 100000 in
theorem ct_X0_addWord {Z : ZT} (hZ : ZOk Z) {σ : Mem} {i0 : Nat} {i1 : Nat} {p2 : Int32} {p3 : Int32} {p4 : Int32} (h0 : kn i0 = 0) (h1 : kn i1 = 5) {r : (Int32 × Mem)} (hf : fX0_addWord σ i0 i1 p2 p3 p4 = some r) : Ct Z yX0_addWord cX0_addWord 5 (some .int) 3 85 [.ref (za Z i0), .ref (za Z i1), .int p2, .int p3, .int p4] σ (some (.int r.1)) True r.2 := by
  refine ct_im hZ (by decide +kernel) (Nat.le_of_ble_eq_true rfl) hf (fun C K O hN hR hf => ?_)
  have O : Ok Z C RX0 cX0_addWord 5 3 85 := O
  change G Z C σ 0 [(0, .ref (za Z i0)), (1, .ref (za Z i1)), (2, .int p2), (3, .int p3), (4, .int p4)] []
  unfold fX0_addWord at hf
  refine g_aload_n O dX0_addWord_0 0 rfl rfl ?_
  refine g_getI O dX0_addWord_1 fx_RX0_55 h0 ?_
  refine g_aload_n O dX0_addWord_4 0 rfl rfl ?_
  refine g_getR O dX0_addWord_5 fx_RX0_11 h0 ?_
  refine g_alen O dX0_addWord_8 (kf_0_0 h0) (by decide) ?_
  refine g_icmp_lt 15 O dX0_addWord_9 (by decide) hf (fun c1 hf => ?_) (fun c1 hf => ?_)
  · refine g_aload_n O dX0_addWord_15 0 rfl rfl ?_
    refine g_getR O dX0_addWord_16 fx_RX0_11 h0 ?_
    refine g_aload_n O dX0_addWord_19 0 rfl rfl ?_
    refine g_getI O dX0_addWord_20 fx_RX0_55 h0 ?_
    refine g_aald O hN dX0_addWord_23 (kf_0_0 h0) (by decide) (el_26 (kf_0_0 h0)) hf (fun hb2 hf => ?_)
    refine g_aload_n O dX0_addWord_24 1 rfl rfl ?_
    refine g_iload_n O dX0_addWord_25 2 rfl rfl ?_
    refine g_iload_n O dX0_addWord_26 3 rfl rfl ?_
    refine g_iload O dX0_addWord_27 4 rfl ?_
    obtain ⟨q3, hq3, hf⟩ := k_obd hN hf
    refine g_callV (rest := []) O dX0_addWord_29 (ct_X10_begin hZ (ke_26 (kf_0_0 h0) (inb_lt hb2)) h1 hq3) vx_RX0_75 (ke_26 (kf_0_0 h0) (inb_lt hb2)) rfl rfl (by decide) (Nat.le_of_ble_eq_true rfl) (fun hp4 => ?_)
    change G Z C q3 32 [(0, .ref (za Z i0)), (1, .ref (za Z i1)), (2, .int p2), (3, .int p3), (4, .int p4)] []
    refine g_aload_n O dX0_addWord_32 0 rfl rfl ?_
    refine g_dup O dX0_addWord_33 rfl ?_
    refine g_getI O dX0_addWord_34 fx_RX0_55 h0 ?_
    refine g_iconst O dX0_addWord_37 (1 : Int32) (by decide) ?_
    refine g_iadd O dX0_addWord_38 ?_
    refine g_putI O dX0_addWord_39 fp_RX0_55 h0 hf (fun m5 hf => ?_)
    refine g_aload_n O dX0_addWord_42 0 rfl rfl ?_
    refine g_getI O dX0_addWord_43 fx_RX0_55 h0 ?_
    refine g_iconst O dX0_addWord_46 (1 : Int32) (by decide) ?_
    refine g_isub O dX0_addWord_47 ?_
    exact hR _ _ hf _ _ dX0_addWord_48
  · refine g_bipush O dX0_addWord_12 (-4 : Int32) (by decide) ?_
    exact hR _ _ hf _ _ dX0_addWord_14

set_option maxHeartbeats 4000000 in
set_option maxRecDepth 100000 in
theorem ct_X0_addFrame {Z : ZT} (hZ : ZOk Z) {σ : Mem} {i0 : Nat} {i1 : Nat} (h0 : kn i0 = 0) (h1 : kn i1 = 3) {r : (Int32 × Mem)} (hf : fX0_addFrame σ i0 i1 = some r) : Ct Z yX0_addFrame cX0_addFrame 2 (some .int) 2 61 [.ref (za Z i0), .ref (za Z i1)] σ (some (.int r.1)) True r.2 := by
  refine ct_im hZ (by decide +kernel) (Nat.le_of_ble_eq_true rfl) hf (fun C K O hN hR hf => ?_)
  have O : Ok Z C RX0 cX0_addFrame 2 2 61 := O
  change G Z C σ 0 [(0, .ref (za Z i0)), (1, .ref (za Z i1))] []
  unfold fX0_addFrame at hf
  refine g_aload_n O dX0_addFrame_0 0 rfl rfl ?_
  refine g_getI O dX0_addFrame_1 fx_RX0_65 h0 ?_
  refine g_aload_n O dX0_addFrame_4 0 rfl rfl ?_
  refine g_getR O dX0_addFrame_5 fx_RX0_28 h0 ?_
  refine g_alen O dX0_addFrame_8 (kf_0_4 h0) (by decide) ?_
  refine g_icmp_lt 15 O dX0_addFrame_9 (by decide) hf (fun c1 hf => ?_) (fun c1 hf => ?_)
  · refine g_aload_n O dX0_addFrame_15 0 rfl rfl ?_
    refine g_getR O dX0_addFrame_16 fx_RX0_28 h0 ?_
    refine g_aload_n O dX0_addFrame_19 0 rfl rfl ?_
    refine g_getI O dX0_addFrame_20 fx_RX0_65 h0 ?_
    refine g_aald O hN dX0_addFrame_23 (kf_0_4 h0) (by decide) (el_22 (kf_0_4 h0)) hf (fun hb2 hf => ?_)
    refine g_aload_n O dX0_addFrame_24 1 rfl rfl ?_
    obtain ⟨q3, hq3, hf⟩ := k_obd hN hf
    refine g_callV (rest := []) O dX0_addFrame_25 (ct_X3_become hZ (ke_22 (kf_0_4 h0) (inb_lt hb2)) h1 hq3) vx_RX0_62 (ke_22 (kf_0_4 h0) (inb_lt hb2)) rfl rfl (by decide) (Nat.le_of_ble_eq_true rfl) (fun hp4 => ?_)
    change G Z C q3 28 [(0, .ref (za Z i0)), (1, .ref (za Z i1))] []
    refine g_aload_n O dX0_addFrame_28 0 rfl rfl ?_
    refine g_dup O dX0_addFrame_29 rfl ?_
    refine g_getI O dX0_addFrame_30 fx_RX0_65 h0 ?_
    refine g_iconst O dX0_addFrame_33 (1 : Int32) (by decide) ?_
    refine g_iadd O dX0_addFrame_34 ?_
    refine g_putI O dX0_addFrame_35 fp_RX0_65 h0 hf (fun m5 hf => ?_)
    refine g_aload_n O dX0_addFrame_38 0 rfl rfl ?_
    refine g_getI O dX0_addFrame_39 fx_RX0_65 h0 ?_
    refine g_iconst O dX0_addFrame_42 (1 : Int32) (by decide) ?_
    refine g_isub O dX0_addFrame_43 ?_
    exact hR _ _ hf _ _ dX0_addFrame_44
  · refine g_bipush O dX0_addFrame_12 (-4 : Int32) (by decide) ?_
    exact hR _ _ hf _ _ dX0_addFrame_14

set_option maxHeartbeats 4000000 in
set_option maxRecDepth 100000 in
theorem ct_X3_has {Z : ZT} (hZ : ZOk Z) {σ : Mem} {i0 : Nat} {p1 : Int32} (h0 : kn i0 = 3) {r : Int32} (hf : fX3_has σ i0 p1 = some r) : Ct Z yX3_has cX3_has 2 (some .boolean) 0 0 [.ref (za Z i0), .int p1] σ (some (.int r)) (r = 0 ∨ r = 1) σ := by
  refine ct_z hZ (by decide +kernel) (Nat.le_of_ble_eq_true rfl) hf (fun C K O hN hR hf => ?_)
  have O : Ok Z C RX3 cX3_has 2 0 0 := O
  change G Z C σ 0 [(0, .ref (za Z i0)), (1, .int p1)] []
  unfold fX3_has at hf
  refine g_iload_n O dX3_has_0 1 rfl rfl ?_
  refine g_if_lt 16 O dX3_has_1 (by decide) hf (fun c1 hf => ?_) (fun c1 hf => ?_)
  · refine g_iconst O dX3_has_16 (0 : Int32) (by decide) ?_
    exact hR _ hf (Or.inl rfl) _ _ dX3_has_17
  · refine g_iload_n O dX3_has_4 1 rfl rfl ?_
    refine g_aload_n O dX3_has_5 0 rfl rfl ?_
    refine g_getI O dX3_has_6 fx_RX3_27 h0 ?_
    refine g_icmp_ge 16 O dX3_has_9 (by decide) hf (fun c2 hf => ?_) (fun c2 hf => ?_)
    · refine g_iconst O dX3_has_16 (0 : Int32) (by decide) ?_
      exact hR _ hf (Or.inl rfl) _ _ dX3_has_17
    · refine g_iconst O dX3_has_12 (1 : Int32) (by decide) ?_
      refine g_goto 17 O dX3_has_13 (by decide) ?_
      exact hR _ hf (Or.inr rfl) _ _ dX3_has_17

set_option maxHeartbeats 4000000 in
set_option maxRecDepth 100000 in
theorem ct_X3_takes {Z : ZT} (hZ : ZOk Z) {σ : Mem} {i0 : Nat} {p1 : Int32} {i2 : Nat} (h0 : kn i0 = 3) (h2 : kn i2 = 10) {r : Int32} (hf : fX3_takes σ i0 p1 i2 = some r) : Ct Z yX3_takes cX3_takes 3 (some .boolean) 1 21 [.ref (za Z i0), .int p1, .ref (za Z i2)] σ (some (.int r)) (r = 0 ∨ r = 1) σ := by
  refine ct_z hZ (by decide +kernel) (Nat.le_of_ble_eq_true rfl) hf (fun C K O hN hR hf => ?_)
  have O : Ok Z C RX3 cX3_takes 3 1 21 := O
  change G Z C σ 0 [(0, .ref (za Z i0)), (1, .int p1), (2, .ref (za Z i2))] []
  unfold fX3_takes at hf
  refine g_aload_n O dX3_takes_0 0 rfl rfl ?_
  refine g_iload_n O dX3_takes_1 1 rfl rfl ?_
  obtain ⟨q1, hq1, hf⟩ := k_obd hN hf
  refine g_callV (rest := []) O dX3_takes_2 (ct_X3_has hZ h0 hq1) vx_RX3_47 h0 rfl rfl (by decide) (Nat.le_of_ble_eq_true rfl) (fun hp2 => ?_)
  change G Z C σ 5 [(0, .ref (za Z i0)), (1, .int p1), (2, .ref (za Z i2))] [.int q1]
  refine g_if_ne 10 O dX3_takes_5 (by decide) hf (fun c3 hf => ?_) (fun c3 hf => ?_)
  · refine g_iconst O dX3_takes_8 (0 : Int32) (by decide) ?_
    exact hR _ hf (Or.inl rfl) _ _ dX3_takes_9
  · refine g_aload_n O dX3_takes_10 0 rfl rfl ?_
    refine g_getR O dX3_takes_11 fx_RX3_9 h0 ?_
    refine g_iload_n O dX3_takes_14 1 rfl rfl ?_
    refine g_iald O hN dX3_takes_15 (kf_3_1 h0) hf (fun hf => ?_)
    refine k_if hf (fun c4 hf => ?_) (fun c4 hf => ?_)
    · refine g_tabIn (off := 32) 48 O dX3_takes_16 c4 (by decide) (by decide) (by decide) (by decide) ?_
      refine g_aload_n O dX3_takes_48 2 rfl rfl ?_
      refine g_getI O dX3_takes_49 fx_RX3_58 h2 ?_
      refine g_iconst O dX3_takes_52 (1 : Int32) (by decide) ?_
      refine g_icmp_eq 64 O dX3_takes_53 (by decide) hf (fun c5 hf => ?_) (fun c5 hf => ?_)
      · refine g_iconst O dX3_takes_64 (1 : Int32) (by decide) ?_
        refine g_goto 69 O dX3_takes_65 (by decide) ?_
        exact hR _ hf (Or.inr rfl) _ _ dX3_takes_69
      · refine g_aload_n O dX3_takes_56 2 rfl rfl ?_
        refine g_getI O dX3_takes_57 fx_RX3_58 h2 ?_
        refine g_iconst O dX3_takes_60 (3 : Int32) (by decide) ?_
        refine g_icmp_ne 68 O dX3_takes_61 (by decide) hf (fun c6 hf => ?_) (fun c6 hf => ?_)
        · refine g_iconst O dX3_takes_64 (1 : Int32) (by decide) ?_
          refine g_goto 69 O dX3_takes_65 (by decide) ?_
          exact hR _ hf (Or.inr rfl) _ _ dX3_takes_69
        · refine g_iconst O dX3_takes_68 (0 : Int32) (by decide) ?_
          exact hR _ hf (Or.inl rfl) _ _ dX3_takes_69
    refine k_if hf (fun c7 hf => ?_) (fun c7 hf => ?_)
    · refine g_tabIn (off := 54) 70 O dX3_takes_16 c7 (by decide) (by decide) (by decide) (by decide) ?_
      refine g_aload_n O dX3_takes_70 2 rfl rfl ?_
      refine g_getI O dX3_takes_71 fx_RX3_58 h2 ?_
      refine g_iconst O dX3_takes_74 (2 : Int32) (by decide) ?_
      refine g_icmp_eq 86 O dX3_takes_75 (by decide) hf (fun c8 hf => ?_) (fun c8 hf => ?_)
      · refine g_iconst O dX3_takes_86 (1 : Int32) (by decide) ?_
        refine g_goto 91 O dX3_takes_87 (by decide) ?_
        exact hR _ hf (Or.inr rfl) _ _ dX3_takes_91
      · refine g_aload_n O dX3_takes_78 2 rfl rfl ?_
        refine g_getI O dX3_takes_79 fx_RX3_58 h2 ?_
        refine g_iconst O dX3_takes_82 (5 : Int32) (by decide) ?_
        refine g_icmp_ne 90 O dX3_takes_83 (by decide) hf (fun c9 hf => ?_) (fun c9 hf => ?_)
        · refine g_iconst O dX3_takes_86 (1 : Int32) (by decide) ?_
          refine g_goto 91 O dX3_takes_87 (by decide) ?_
          exact hR _ hf (Or.inr rfl) _ _ dX3_takes_91
        · refine g_iconst O dX3_takes_90 (0 : Int32) (by decide) ?_
          exact hR _ hf (Or.inl rfl) _ _ dX3_takes_91
    refine k_if hf (fun c10 hf => ?_) (fun c10 hf => ?_)
    · refine g_tabIn (off := 76) 92 O dX3_takes_16 c10 (by decide) (by decide) (by decide) (by decide) ?_
      refine g_aload_n O dX3_takes_92 2 rfl rfl ?_
      refine g_getI O dX3_takes_93 fx_RX3_58 h2 ?_
      refine g_iconst O dX3_takes_96 (4 : Int32) (by decide) ?_
      refine g_icmp_ne 104 O dX3_takes_97 (by decide) hf (fun c11 hf => ?_) (fun c11 hf => ?_)
      · refine g_iconst O dX3_takes_100 (1 : Int32) (by decide) ?_
        refine g_goto 105 O dX3_takes_101 (by decide) ?_
        exact hR _ hf (Or.inr rfl) _ _ dX3_takes_105
      · refine g_iconst O dX3_takes_104 (0 : Int32) (by decide) ?_
        exact hR _ hf (Or.inl rfl) _ _ dX3_takes_105
    refine k_if hf (fun c12 hf => ?_) (fun c12 hf => ?_)
    · refine g_tabIn (off := 90) 106 O dX3_takes_16 c12 (by decide) (by decide) (by decide) (by decide) ?_
      refine g_aload_n O dX3_takes_106 2 rfl rfl ?_
      refine g_getI O dX3_takes_107 fx_RX3_63 h2 ?_
      refine g_aload_n O dX3_takes_110 0 rfl rfl ?_
      refine g_getR O dX3_takes_111 fx_RX3_21 h0 ?_
      refine g_iload_n O dX3_takes_114 1 rfl rfl ?_
      refine g_iald O hN dX3_takes_115 (kf_3_4 h0) hf (fun hf => ?_)
      refine g_icmp_ne 123 O dX3_takes_116 (by decide) hf (fun c13 hf => ?_) (fun c13 hf => ?_)
      · refine g_iconst O dX3_takes_119 (1 : Int32) (by decide) ?_
        refine g_goto 124 O dX3_takes_120 (by decide) ?_
        exact hR _ hf (Or.inr rfl) _ _ dX3_takes_124
      · refine g_iconst O dX3_takes_123 (0 : Int32) (by decide) ?_
        exact hR _ hf (Or.inl rfl) _ _ dX3_takes_124
    refine g_tabOut 125 O dX3_takes_16 (by have h0 := ti_ne c4 (n := 0) (by decide); have h1 := ti_ne c7 (n := 1) (by decide); have h2 := ti_ne c10 (n := 2) (by decide); have h3 := ti_ne c12 (n := 3) (by decide); omega) (by decide) ?_
    refine g_iconst O dX3_takes_125 (0 : Int32) (by decide) ?_
    exact hR _ hf (Or.inl rfl) _ _ dX3_takes_126

set_option maxHeartbeats 4000000 in
set_option maxRecDepth 100000 in
theorem ct_X0_wordFor {Z : ZT} (hZ : ZOk Z) {σ : Mem} {i0 : Nat} {i1 : Nat} {p2 : Int32} {p3 : Int32} (h0 : kn i0 = 0) (h1 : kn i1 = 3) {r : Int32} (hf : fX0_wordFor σ i0 i1 p2 p3 = some r) : Ct Z yX0_wordFor cX0_wordFor 6 (some .int) 2 43 [.ref (za Z i0), .ref (za Z i1), .int p2, .int p3] σ (some (.int r)) True σ := by
  refine ct_i hZ (by decide +kernel) (Nat.le_of_ble_eq_true rfl) hf (fun C K O hN hR hf => ?_)
  have O : Ok Z C RX0 cX0_wordFor 6 2 43 := O
  change G Z C σ 0 [(0, .ref (za Z i0)), (1, .ref (za Z i1)), (2, .int p2), (3, .int p3)] []
  unfold fX0_wordFor at hf
  refine g_iload_n O dX0_wordFor_0 3 rfl rfl ?_
  refine g_istoreP O dX0_wordFor_1 (by decide) [(4, .int p3), (0, .ref (za Z i0)), (1, .ref (za Z i1)), (2, .int p2), (3, .int p3)] rfl ?_
  refine g_iconst O dX0_wordFor_3 (0 : Int32) (by decide) ?_
  refine g_istoreP O dX0_wordFor_4 (by decide) [(5, .int (0 : Int32)), (4, .int p3), (0, .ref (za Z i0)), (1, .ref (za Z i1)), (2, .int p2), (3, .int p3)] rfl ?_
  refine g_sub [0, 1, 2, 3, 4] rfl ?_
  refine g_lp hN (fun (a1 : Int32 × Int32) => G Z C σ 6 [(5, .int a1.1), (4, .int a1.2), (0, .ref (za Z i0)), (1, .ref (za Z i1)), (2, .int p2)] []) hf (fun a1 _ hN1 hI1 hX1 hf => ?_)
  unfold sX0_wordFor_6 at hf
  refine g_iload O dX0_wordFor_6 0 rfl ?_
  refine g_aload_n O dX0_wordFor_8 2 rfl rfl ?_
  refine g_getI O dX0_wordFor_9 fx_RX0_55 h0 ?_
  refine g_icmp_ge 47 O dX0_wordFor_12 (by decide) hf (fun c2 hf => ?_) (fun c2 hf => ?_)
  · have hf := hX1 _ hf
    refine g_iconst O dX0_wordFor_47 (-1 : Int32) (by decide) ?_
    exact hR _ hf _ _ dX0_wordFor_48
  · refine g_aload_n O dX0_wordFor_15 3 rfl rfl ?_
    refine g_iload_n O dX0_wordFor_16 4 rfl rfl ?_
    refine g_aload_n O dX0_wordFor_17 2 rfl rfl ?_
    refine g_getR O dX0_wordFor_18 fx_RX0_11 h0 ?_
    refine g_iload O dX0_wordFor_21 0 rfl ?_
    refine g_aald O hN1 dX0_wordFor_23 (kf_0_0 h0) (by decide) (el_26 (kf_0_0 h0)) hf (fun hb3 hf => ?_)
    obtain ⟨q4, hq4, hf⟩ := k_obd hN1 hf
    refine g_callV (rest := []) O dX0_wordFor_24 (ct_X3_takes hZ h1 (ke_26 (kf_0_0 h0) (inb_lt hb3)) hq4) vx_RX0_79 h1 rfl rfl (by decide) (Nat.le_of_ble_eq_true rfl) (fun hp5 => ?_)
    change G Z C σ 27 [(5, .int a1.1), (4, .int a1.2), (0, .ref (za Z i0)), (1, .ref (za Z i1)), (2, .int p2)] [.int q4]
    refine g_if_eq 41 O dX0_wordFor_27 (by decide) hf (fun c6 hf => ?_) (fun c6 hf => ?_)
    · refine g_iinc O dX0_wordFor_41 0 rfl (by decide) (1) (by decide) (fun y => [(5, .int y), (4, .int a1.2), (0, .ref (za Z i0)), (1, .ref (za Z i1)), (2, .int p2)]) (fun _ => rfl) hf (fun x7 hf => ?_)
      refine g_goto 6 O dX0_wordFor_44 (by decide) ?_
      exact hI1 _ hf
    · refine g_iload O dX0_wordFor_30 1 rfl ?_
      refine g_if_ne 38 O dX0_wordFor_32 (by decide) hf (fun c8 hf => ?_) (fun c8 hf => ?_)
      · have hf := hX1 _ hf
        refine g_iload O dX0_wordFor_35 0 rfl ?_
        exact hR _ hf _ _ dX0_wordFor_37
      · refine g_iinc O dX0_wordFor_38 1 rfl (by decide) (-1) (by decide) (fun y => [(4, .int y), (5, .int a1.1), (0, .ref (za Z i0)), (1, .ref (za Z i1)), (2, .int p2)]) (fun _ => rfl) hf (fun x9 hf => ?_)
        refine g_iinc O dX0_wordFor_41 1 rfl (by decide) (1) (by decide) (fun y => [(5, .int y), (4, .int x9), (0, .ref (za Z i0)), (1, .ref (za Z i1)), (2, .int p2)]) (fun _ => rfl) hf (fun x10 hf => ?_)
        refine g_goto 6 O dX0_wordFor_44 (by decide) ?_
        exact hI1 _ hf

set_option maxHeartbeats 4000000 in
set_option maxRecDepth 100000 in
theorem ct_X10_isOf {Z : ZT} (hZ : ZOk Z) {σ : Mem} {i0 : Nat} {p1 : Int32} (h0 : kn i0 = 10) {r : Int32} (hf : fX10_isOf σ i0 p1 = some r) : Ct Z yX10_isOf cX10_isOf 4 (some .boolean) 0 0 [.ref (za Z i0), .int p1] σ (some (.int r)) (r = 0 ∨ r = 1) σ := by
  refine ct_z hZ (by decide +kernel) (Nat.le_of_ble_eq_true rfl) hf (fun C K O hN hR hf => ?_)
  have O : Ok Z C RX10 cX10_isOf 4 0 0 := O
  change G Z C σ 0 [(0, .ref (za Z i0)), (1, .int p1)] []
  unfold fX10_isOf at hf
  refine g_aload_n O dX10_isOf_0 0 rfl rfl ?_
  refine g_getI O dX10_isOf_1 fx_RX10_24 h0 ?_
  refine g_istore_n O dX10_isOf_4 rfl (by decide) (fun y => [(2, .int y), (0, .ref (za Z i0)), (1, .int p1)]) (fun _ => rfl) hf (fun x1 hf => ?_)
  refine g_iconst O dX10_isOf_5 (0 : Int32) (by decide) ?_
  refine g_istore_nP O dX10_isOf_6 rfl (by decide) [(3, .int (0 : Int32)), (2, .int x1), (0, .ref (za Z i0)), (1, .int p1)] rfl ?_
  refine g_sub [0, 1, 3] rfl ?_
  refine g_lp hN (fun (a2 : Int32 × Int32) => G Z C σ 7 [(3, .int a2.1), (2, .int a2.2), (1, .int p1)] []) hf (fun a2 _ hN2 hI2 hX2 hf => ?_)
  unfold sX10_isOf_7 at hf
  refine g_iload_n O dX10_isOf_7 0 rfl rfl ?_
  refine g_bipush O dX10_isOf_8 (6 : Int32) (by decide) ?_
  refine g_icmp_ge 44 O dX10_isOf_10 (by decide) hf (fun c3 hf => ?_) (fun c3 hf => ?_)
  · have hf := hX2 _ hf
    refine g_iconst O dX10_isOf_44 (0 : Int32) (by decide) ?_
    exact hR _ hf (Or.inl rfl) _ _ dX10_isOf_45
  · refine g_iload_n O dX10_isOf_13 1 rfl rfl ?_
    refine g_if_lt 44 O dX10_isOf_14 (by decide) hf (fun c4 hf => ?_) (fun c4 hf => ?_)
    · have hf := hX2 _ hf
      refine g_iconst O dX10_isOf_44 (0 : Int32) (by decide) ?_
      exact hR _ hf (Or.inl rfl) _ _ dX10_isOf_45
    · refine g_iload_n O dX10_isOf_17 1 rfl rfl ?_
      refine g_above O dX10_isOf_18 lw_above ?_
      refine g_abvlen O dX10_isOf_21 ?_
      refine g_icmp_ge 44 O dX10_isOf_22 (by decide) hf (fun c5 hf => ?_) (fun c5 hf => ?_)
      · have hf := hX2 _ hf
        refine g_iconst O dX10_isOf_44 (0 : Int32) (by decide) ?_
        exact hR _ hf (Or.inl rfl) _ _ dX10_isOf_45
      · refine g_iload_n O dX10_isOf_25 1 rfl rfl ?_
        refine g_iload_n O dX10_isOf_26 2 rfl rfl ?_
        refine g_icmp_ne 32 O dX10_isOf_27 (by decide) hf (fun c6 hf => ?_) (fun c6 hf => ?_)
        · have hf := hX2 _ hf
          refine g_iconst O dX10_isOf_30 (1 : Int32) (by decide) ?_
          exact hR _ hf (Or.inr rfl) _ _ dX10_isOf_31
        · refine g_above O dX10_isOf_32 lw_above ?_
          refine g_iload_n O dX10_isOf_35 1 rfl rfl ?_
          refine g_abvld O hN2 dX10_isOf_36 hf (fun hf => ?_)
          refine g_istore_n O dX10_isOf_37 rfl (by decide) (fun y => [(2, .int y), (3, .int a2.1), (1, .int p1)]) (fun _ => rfl) hf (fun x7 hf => ?_)
          refine g_iinc O dX10_isOf_38 1 rfl (by decide) (1) (by decide) (fun y => [(3, .int y), (2, .int x7), (1, .int p1)]) (fun _ => rfl) hf (fun x8 hf => ?_)
          refine g_goto 7 O dX10_isOf_41 (by decide) ?_
          exact hI2 _ hf

set_option maxHeartbeats 4000000 in
set_option maxRecDepth 100000 in
theorem ct_X5_add {Z : ZT} (hZ : ZOk Z) {σ : Mem} {i0 : Nat} {p1 : Int32} (h0 : kn i0 = 5) {r : Mem} (hf : fX5_add σ i0 p1 = some r) : Ct Z yX5_add cX5_add 2 none 0 0 [.ref (za Z i0), .int p1] σ none True r := by
  refine ct_v hZ (by decide +kernel) (Nat.le_of_ble_eq_true rfl) hf (fun C K O hN hR hf => ?_)
  have O : Ok Z C RX5 cX5_add 2 0 0 := O
  change G Z C σ 0 [(0, .ref (za Z i0)), (1, .int p1)] []
  unfold fX5_add at hf
  refine g_aload_n O dX5_add_0 0 rfl rfl ?_
  refine g_getI O dX5_add_1 fx_RX5_21 h0 ?_
  refine g_aload_n O dX5_add_4 0 rfl rfl ?_
  refine g_getR O dX5_add_5 fx_RX5_15 h0 ?_
  refine g_alen O dX5_add_8 (kf_5_0 h0) (by decide) ?_
  refine g_icmp_ge 33 O dX5_add_9 (by decide) hf (fun c1 hf => ?_) (fun c1 hf => ?_)
  · exact hR _ hf _ _ dX5_add_33
  · refine g_aload_n O dX5_add_12 0 rfl rfl ?_
    refine g_getR O dX5_add_13 fx_RX5_15 h0 ?_
    refine g_aload_n O dX5_add_16 0 rfl rfl ?_
    refine g_getI O dX5_add_17 fx_RX5_21 h0 ?_
    refine g_iload_n O dX5_add_20 1 rfl rfl ?_
    refine g_i2b O dX5_add_21 ?_
    refine g_bast O hN dX5_add_22 (kf_5_0 h0) hf (fun m2 hf => ?_)
    refine g_aload_n O dX5_add_23 0 rfl rfl ?_
    refine g_dup O dX5_add_24 rfl ?_
    refine g_getI O dX5_add_25 fx_RX5_21 h0 ?_
    refine g_iconst O dX5_add_28 (1 : Int32) (by decide) ?_
    refine g_iadd O dX5_add_29 ?_
    refine g_putI O dX5_add_30 fp_RX5_21 h0 hf (fun m3 hf => ?_)
    exact hR _ hf _ _ dX5_add_33

set_option maxHeartbeats 4000000 in
set_option maxRecDepth 100000 in
theorem ct_X5_at {Z : ZT} (hZ : ZOk Z) {σ : Mem} {i0 : Nat} {p1 : Int32} (h0 : kn i0 = 5) {r : Int32} (hf : fX5_at σ i0 p1 = some r) : Ct Z yX5_at cX5_at 2 (some .int) 0 0 [.ref (za Z i0), .int p1] σ (some (.int r)) True σ := by
  refine ct_i hZ (by decide +kernel) (Nat.le_of_ble_eq_true rfl) hf (fun C K O hN hR hf => ?_)
  have O : Ok Z C RX5 cX5_at 2 0 0 := O
  change G Z C σ 0 [(0, .ref (za Z i0)), (1, .int p1)] []
  unfold fX5_at at hf
  refine g_iload_n O dX5_at_0 1 rfl rfl ?_
  refine g_if_lt 25 O dX5_at_1 (by decide) hf (fun c1 hf => ?_) (fun c1 hf => ?_)
  · refine g_iconst O dX5_at_25 (-1 : Int32) (by decide) ?_
    exact hR _ hf _ _ dX5_at_26
  · refine g_iload_n O dX5_at_4 1 rfl rfl ?_
    refine g_aload_n O dX5_at_5 0 rfl rfl ?_
    refine g_getI O dX5_at_6 fx_RX5_21 h0 ?_
    refine g_icmp_ge 25 O dX5_at_9 (by decide) hf (fun c2 hf => ?_) (fun c2 hf => ?_)
    · refine g_iconst O dX5_at_25 (-1 : Int32) (by decide) ?_
      exact hR _ hf _ _ dX5_at_26
    · refine g_aload_n O dX5_at_12 0 rfl rfl ?_
      refine g_getR O dX5_at_13 fx_RX5_15 h0 ?_
      refine g_iload_n O dX5_at_16 1 rfl rfl ?_
      refine g_bald O hN dX5_at_17 (kf_5_0 h0) hf (fun hf => ?_)
      refine g_sipush O dX5_at_18 (255 : Int32) (by decide) ?_
      refine g_iand O dX5_at_21 ?_
      refine g_goto 26 O dX5_at_22 (by decide) ?_
      exact hR _ hf _ _ dX5_at_26

set_option maxHeartbeats 4000000 in
set_option maxRecDepth 100000 in
theorem ct_X5_isVowel {Z : ZT} (hZ : ZOk Z) {σ : Mem} {p0 : Int32}  {r : Int32} (hf : fX5_isVowel σ p0 = some r) : Ct Z yX5_isVowel cX5_isVowel 1 (some .boolean) 0 0 [.int p0] σ (some (.int r)) (r = 0 ∨ r = 1) σ := by
  refine ct_z hZ (by decide +kernel) (Nat.le_of_ble_eq_true rfl) hf (fun C K O hN hR hf => ?_)
  have O : Ok Z C RX5 cX5_isVowel 1 0 0 := O
  change G Z C σ 0 [(0, .int p0)] []
  unfold fX5_isVowel at hf
  refine g_iload_n O dX5_isVowel_0 0 rfl rfl ?_
  refine g_bipush O dX5_isVowel_1 (97 : Int32) (by decide) ?_
  refine g_icmp_eq 30 O dX5_isVowel_3 (by decide) hf (fun c1 hf => ?_) (fun c1 hf => ?_)
  · refine g_iconst O dX5_isVowel_30 (1 : Int32) (by decide) ?_
    refine g_goto 35 O dX5_isVowel_31 (by decide) ?_
    exact hR _ hf (Or.inr rfl) _ _ dX5_isVowel_35
  · refine g_iload_n O dX5_isVowel_6 0 rfl rfl ?_
    refine g_bipush O dX5_isVowel_7 (101 : Int32) (by decide) ?_
    refine g_icmp_eq 30 O dX5_isVowel_9 (by decide) hf (fun c2 hf => ?_) (fun c2 hf => ?_)
    · refine g_iconst O dX5_isVowel_30 (1 : Int32) (by decide) ?_
      refine g_goto 35 O dX5_isVowel_31 (by decide) ?_
      exact hR _ hf (Or.inr rfl) _ _ dX5_isVowel_35
    · refine g_iload_n O dX5_isVowel_12 0 rfl rfl ?_
      refine g_bipush O dX5_isVowel_13 (105 : Int32) (by decide) ?_
      refine g_icmp_eq 30 O dX5_isVowel_15 (by decide) hf (fun c3 hf => ?_) (fun c3 hf => ?_)
      · refine g_iconst O dX5_isVowel_30 (1 : Int32) (by decide) ?_
        refine g_goto 35 O dX5_isVowel_31 (by decide) ?_
        exact hR _ hf (Or.inr rfl) _ _ dX5_isVowel_35
      · refine g_iload_n O dX5_isVowel_18 0 rfl rfl ?_
        refine g_bipush O dX5_isVowel_19 (111 : Int32) (by decide) ?_
        refine g_icmp_eq 30 O dX5_isVowel_21 (by decide) hf (fun c4 hf => ?_) (fun c4 hf => ?_)
        · refine g_iconst O dX5_isVowel_30 (1 : Int32) (by decide) ?_
          refine g_goto 35 O dX5_isVowel_31 (by decide) ?_
          exact hR _ hf (Or.inr rfl) _ _ dX5_isVowel_35
        · refine g_iload_n O dX5_isVowel_24 0 rfl rfl ?_
          refine g_bipush O dX5_isVowel_25 (117 : Int32) (by decide) ?_
          refine g_icmp_ne 34 O dX5_isVowel_27 (by decide) hf (fun c5 hf => ?_) (fun c5 hf => ?_)
          · refine g_iconst O dX5_isVowel_30 (1 : Int32) (by decide) ?_
            refine g_goto 35 O dX5_isVowel_31 (by decide) ?_
            exact hR _ hf (Or.inr rfl) _ _ dX5_isVowel_35
          · refine g_iconst O dX5_isVowel_34 (0 : Int32) (by decide) ?_
            exact hR _ hf (Or.inl rfl) _ _ dX5_isVowel_35

set_option maxHeartbeats 4000000 in
set_option maxRecDepth 100000 in
theorem ct_X5_join {Z : ZT} (hZ : ZOk Z) {σ : Mem} {i0 : Nat} {i1 : Nat} (h0 : kn i0 = 5) (h1 : kn i1 = 5) {r : Mem} (hf : fX5_join σ i0 i1 = some r) : Ct Z yX5_join cX5_join 3 none 1 21 [.ref (za Z i0), .ref (za Z i1)] σ none True r := by
  refine ct_v hZ (by decide +kernel) (Nat.le_of_ble_eq_true rfl) hf (fun C K O hN hR hf => ?_)
  have O : Ok Z C RX5 cX5_join 3 1 21 := O
  change G Z C σ 0 [(0, .ref (za Z i0)), (1, .ref (za Z i1))] []
  unfold fX5_join at hf
  refine g_aload_n O dX5_join_0 0 rfl rfl ?_
  refine g_aload_n O dX5_join_1 0 rfl rfl ?_
  refine g_getI O dX5_join_2 fx_RX5_21 h0 ?_
  refine g_iconst O dX5_join_5 (1 : Int32) (by decide) ?_
  refine g_isub O dX5_join_6 ?_
  obtain ⟨q1, hq1, hf⟩ := k_obd hN hf
  refine g_callV (rest := []) O dX5_join_7 (ct_X5_at hZ h0 hq1) vx_RX5_34 h0 rfl rfl (by decide) (Nat.le_of_ble_eq_true rfl) (fun hp2 => ?_)
  change G Z C σ 10 [(0, .ref (za Z i0)), (1, .ref (za Z i1))] [.int q1]
  obtain ⟨q3, hq3, hf⟩ := k_obd hN hf
  refine g_callS (rest := []) O dX5_join_10 (ct_X5_isVowel hZ  hq3) sx_RX5_38 rfl rfl (by decide) (Nat.le_of_ble_eq_true rfl) (fun hp4 => ?_)
  change G Z C σ 13 [(0, .ref (za Z i0)), (1, .ref (za Z i1))] [.int q3]
  refine g_jn (fun (y5 : Mem) => G Z C y5 37 [(0, .ref (za Z i0)), (1, .ref (za Z i1))] []) hf (fun y5 hf => ?_) (fun k5 hk5 hf => ?_)
  · refine g_iconst O dX5_join_37 (0 : Int32) (by decide) ?_
    refine g_istore_nP O dX5_join_38 rfl (by decide) [(2, .int (0 : Int32)), (0, .ref (za Z i0)), (1, .ref (za Z i1))] rfl ?_
    refine g_lp hN (fun (a6 : Int32 × Mem) => G Z C a6.2 39 [(2, .int a6.1), (0, .ref (za Z i0)), (1, .ref (za Z i1))] []) hf (fun a6 _ hN6 hI6 hX6 hf => ?_)
    unfold sX5_join_39 at hf
    refine g_iload_n O dX5_join_39 0 rfl rfl ?_
    refine g_aload_n O dX5_join_40 2 rfl rfl ?_
    refine g_getI O dX5_join_41 fx_RX5_21 h1 ?_
    refine g_icmp_ge 62 O dX5_join_44 (by decide) hf (fun c7 hf => ?_) (fun c7 hf => ?_)
    · have hf := hX6 _ hf
      exact hR _ hf _ _ dX5_join_62
    · refine g_aload_n O dX5_join_47 1 rfl rfl ?_
      refine g_aload_n O dX5_join_48 2 rfl rfl ?_
      refine g_iload_n O dX5_join_49 0 rfl rfl ?_
      obtain ⟨q8, hq8, hf⟩ := k_obd hN6 hf
      refine g_callV (rest := [.ref (za Z i0)]) O dX5_join_50 (ct_X5_at hZ h1 hq8) vx_RX5_34 h1 rfl rfl (by decide) (Nat.le_of_ble_eq_true rfl) (fun hp9 => ?_)
      change G Z C a6.2 53 [(2, .int a6.1), (0, .ref (za Z i0)), (1, .ref (za Z i1))] [.int q8, .ref (za Z i0)]
      obtain ⟨q10, hq10, hf⟩ := k_obd hN6 hf
      refine g_callV (rest := []) O dX5_join_53 (ct_X5_add hZ h0 hq10) vx_RX5_42 h0 rfl rfl (by decide) (Nat.le_of_ble_eq_true rfl) (fun hp11 => ?_)
      change G Z C q10 56 [(2, .int a6.1), (0, .ref (za Z i0)), (1, .ref (za Z i1))] []
      refine g_iinc O dX5_join_56 0 rfl (by decide) (1) (by decide) (fun y => [(2, .int y), (0, .ref (za Z i0)), (1, .ref (za Z i1))]) (fun _ => rfl) hf (fun x12 hf => ?_)
      refine g_goto 39 O dX5_join_59 (by decide) ?_
      exact hI6 _ hf
  · skip
    refine g_if_eq 37 O dX5_join_13 (by decide) hf (fun c13 hf => ?_) (fun c13 hf => ?_)
    · exact hk5 _ hf
    · refine g_aload_n O dX5_join_16 1 rfl rfl ?_
      refine g_iconst O dX5_join_17 (0 : Int32) (by decide) ?_
      obtain ⟨q14, hq14, hf⟩ := k_obd hN hf
      refine g_callV (rest := []) O dX5_join_18 (ct_X5_at hZ h1 hq14) vx_RX5_34 h1 rfl rfl (by decide) (Nat.le_of_ble_eq_true rfl) (fun hp15 => ?_)
      change G Z C σ 21 [(0, .ref (za Z i0)), (1, .ref (za Z i1))] [.int q14]
      obtain ⟨q16, hq16, hf⟩ := k_obd hN hf
      refine g_callS (rest := []) O dX5_join_21 (ct_X5_isVowel hZ  hq16) sx_RX5_38 rfl rfl (by decide) (Nat.le_of_ble_eq_true rfl) (fun hp17 => ?_)
      change G Z C σ 24 [(0, .ref (za Z i0)), (1, .ref (za Z i1))] [.int q16]
      refine g_if_eq 37 O dX5_join_24 (by decide) hf (fun c18 hf => ?_) (fun c18 hf => ?_)
      · exact hk5 _ hf
      · refine g_aload_n O dX5_join_27 0 rfl rfl ?_
        refine g_dup O dX5_join_28 rfl ?_
        refine g_getI O dX5_join_29 fx_RX5_21 h0 ?_
        refine g_iconst O dX5_join_32 (1 : Int32) (by decide) ?_
        refine g_isub O dX5_join_33 ?_
        refine g_putI O dX5_join_34 fp_RX5_21 h0 hf (fun m19 hf => ?_)
        exact hk5 _ hf

set_option maxHeartbeats 4000000 in
set_option maxRecDepth 100000 in
theorem ct_X0_spell {Z : ZT} (hZ : ZOk Z) {σ : Mem} {i0 : Nat} {i1 : Nat} {p2 : Int32} {i3 : Nat} (h0 : kn i0 = 0) (h1 : kn i1 = 10) (h3 : kn i3 = 5) {r : Mem} (hf : fX0_spell σ i0 i1 p2 i3 = some r) : Ct Z yX0_spell cX0_spell 9 none 2 61 [.ref (za Z i0), .ref (za Z i1), .int p2, .ref (za Z i3)] σ none True r := by
  refine ct_v hZ (by decide +kernel) (Nat.le_of_ble_eq_true rfl) hf (fun C K O hN hR hf => ?_)
  have O : Ok Z C RX0 cX0_spell 9 2 61 := O
  change G Z C σ 0 [(0, .ref (za Z i0)), (1, .ref (za Z i1)), (2, .int p2), (3, .ref (za Z i3))] []
  unfold fX0_spell at hf
  refine g_iload_n O dX0_spell_0 2 rfl rfl ?_
  refine g_iconst O dX0_spell_1 (4 : Int32) (by decide) ?_
  refine g_iremC O (by decide) dX0_spell_2 ?_
  refine g_istore O dX0_spell_3 (by decide) (fun y => [(4, .int y), (0, .ref (za Z i0)), (1, .ref (za Z i1)), (2, .int p2), (3, .ref (za Z i3))]) (fun _ => rfl) hf (fun x1 hf => ?_)
  refine g_iload_n O dX0_spell_5 3 rfl rfl ?_
  refine g_iconst O dX0_spell_6 (4 : Int32) (by decide) ?_
  refine g_idivC O (by decide) dX0_spell_7 ?_
  refine g_iconst O dX0_spell_8 (2 : Int32) (by decide) ?_
  refine g_iremC O (by decide) dX0_spell_9 ?_
  refine g_istore O dX0_spell_10 (by decide) (fun y => [(5, .int y), (4, .int x1), (0, .ref (za Z i0)), (1, .ref (za Z i1)), (2, .int p2), (3, .ref (za Z i3))]) (fun _ => rfl) hf (fun x2 hf => ?_)
  refine g_iload_n O dX0_spell_12 4 rfl rfl ?_
  refine g_bipush O dX0_spell_13 (8 : Int32) (by decide) ?_
  refine g_idivC O (by decide) dX0_spell_15 ?_
  refine g_iconst O dX0_spell_16 (3 : Int32) (by decide) ?_
  refine g_iremC O (by decide) dX0_spell_17 ?_
  refine g_istore O dX0_spell_18 (by decide) (fun y => [(6, .int y), (5, .int x2), (4, .int x1), (0, .ref (za Z i0)), (1, .ref (za Z i1)), (2, .int p2), (3, .ref (za Z i3))]) (fun _ => rfl) hf (fun x3 hf => ?_)
  refine g_iload_n O dX0_spell_20 5 rfl rfl ?_
  refine g_bipush O dX0_spell_21 (24 : Int32) (by decide) ?_
  refine g_idivC O (by decide) dX0_spell_23 ?_
  refine g_istore O dX0_spell_24 (by decide) (fun y => [(7, .int y), (6, .int x3), (5, .int x2), (4, .int x1), (0, .ref (za Z i0)), (1, .ref (za Z i1)), (2, .int p2), (3, .ref (za Z i3))]) (fun _ => rfl) hf (fun x4 hf => ?_)
  refine g_aload_n O dX0_spell_26 7 rfl rfl ?_
  refine g_aload_n O dX0_spell_27 5 rfl rfl ?_
  refine g_getR O dX0_spell_28 fx_RX0_83 h1 ?_
  obtain ⟨q5, hq5, hf⟩ := k_obd hN hf
  refine g_callV (rest := []) O dX0_spell_31 (ct_X5_become hZ h3 (kf_10_1 h1) hq5) vx_RX0_59 h3 rfl rfl (by decide) (Nat.le_of_ble_eq_true rfl) (fun hp6 => ?_)
  change G Z C q5 34 [(7, .int x4), (6, .int x3), (5, .int x2), (4, .int x1), (0, .ref (za Z i0)), (1, .ref (za Z i1)), (2, .int p2), (3, .ref (za Z i3))] []
  refine g_aload_n O dX0_spell_34 5 rfl rfl ?_
  refine g_getI O dX0_spell_35 fx_RX0_86 h1 ?_
  refine g_if_ne 42 O dX0_spell_38 (by decide) hf (fun c7 hf => ?_) (fun c7 hf => ?_)
  · exact hR _ hf _ _ dX0_spell_41
  · refine g_aload_n O dX0_spell_42 4 rfl rfl ?_
    refine g_aload_n O dX0_spell_43 5 rfl rfl ?_
    refine g_getI O dX0_spell_44 fx_RX0_89 h1 ?_
    refine g_aload_n O dX0_spell_47 5 rfl rfl ?_
    refine g_iconst O dX0_spell_48 (2 : Int32) (by decide) ?_
    obtain ⟨q8, hq8, hf⟩ := k_obd hN hf
    refine g_callV (rest := [.int (q5 i1 3), .ref (za Z i0)]) O dX0_spell_49 (ct_X10_isOf hZ h1 hq8) vx_RX0_92 h1 rfl rfl (by decide) (Nat.le_of_ble_eq_true rfl) (fun hp9 => ?_)
    change G Z C q5 52 [(7, .int x4), (6, .int x3), (5, .int x2), (4, .int x1), (0, .ref (za Z i0)), (1, .ref (za Z i1)), (2, .int p2), (3, .ref (za Z i3))] [.int q8, .int (q5 i1 3), .ref (za Z i0)]
    refine g_jn (fun (y10 : Int32) => G Z C q5 62 [(7, .int x4), (6, .int x3), (5, .int x2), (0, .ref (za Z i0)), (1, .ref (za Z i1)), (3, .ref (za Z i3))] [.int y10, .int (q5 i1 3), .ref (za Z i0)]) hf (fun y10 hf => ?_) (fun k10 hk10 hf => ?_)
    · refine g_aload_n O dX0_spell_62 4 rfl rfl ?_
      refine g_getI O dX0_spell_63 fx_RX0_86 h1 ?_
      refine g_iconst O dX0_spell_66 (3 : Int32) (by decide) ?_
      refine g_jn (fun (y11 : Int32) => G Z C q5 76 [(7, .int x4), (6, .int x3), (0, .ref (za Z i0)), (1, .ref (za Z i1)), (3, .ref (za Z i3))] [.int y11, .int y10, .int (q5 i1 3), .ref (za Z i0)]) hf (fun y11 hf => ?_) (fun k11 hk11 hf => ?_)
      · obtain ⟨q12, hq12, hf⟩ := k_obd hN hf
        refine g_callV (rest := []) O dX0_spell_76 (ct_X0_endingAt hZ h0 hq12) vx_RX0_96 h0 rfl rfl (by decide) (Nat.le_of_ble_eq_true rfl) (fun hp13 => ?_)
        refine k_ocs hf (fun he hf1 => ?_) (fun w14 he hf1 => ?_)
        · subst he
          have hf := hf1
          change G Z C q5 79 [(7, .int x4), (6, .int x3), (0, .ref (za Z i0)), (1, .ref (za Z i1)), (3, .ref (za Z i3))] [.null]
          refine g_astoreN O dX0_spell_79 (by decide) [(8, .null), (7, .int x4), (6, .int x3), (0, .ref (za Z i0)), (1, .ref (za Z i1)), (3, .ref (za Z i3))] rfl ?_
          refine g_aloadN O dX0_spell_81 0 rfl ?_
          refine g_ifnullN 92 O dX0_spell_83 (by decide) ?_
          refine g_aload_n O dX0_spell_92 4 rfl rfl ?_
          refine g_getI O dX0_spell_93 fx_RX0_86 h1 ?_
          refine g_iconst O dX0_spell_96 (4 : Int32) (by decide) ?_
          refine g_jn (fun (y15 : Mem) => G Z C y15 120 [(7, .int x4), (1, .ref (za Z i1)), (3, .ref (za Z i3))] []) hf (fun y15 hf => ?_) (fun k15 hk15 hf => ?_)
          · refine g_aload_n O dX0_spell_120 1 rfl rfl ?_
            refine g_getI O dX0_spell_121 fx_RX0_86 h1 ?_
            refine g_iconst O dX0_spell_124 (5 : Int32) (by decide) ?_
            refine g_icmp_ne 147 O dX0_spell_125 (by decide) hf (fun c16 hf => ?_) (fun c16 hf => ?_)
            · refine g_iload O dX0_spell_128 0 rfl ?_
              refine g_if_eq 147 O dX0_spell_130 (by decide) hf (fun c17 hf => ?_) (fun c17 hf => ?_)
              · exact hR _ hf _ _ dX0_spell_147
              · refine g_aload_n O dX0_spell_133 2 rfl rfl ?_
                refine g_aload_n O dX0_spell_134 2 rfl rfl ?_
                refine g_aload_n O dX0_spell_135 2 rfl rfl ?_
                refine g_getI O dX0_spell_136 fx_RX0_103 h3 ?_
                refine g_iconst O dX0_spell_139 (1 : Int32) (by decide) ?_
                refine g_isub O dX0_spell_140 ?_
                obtain ⟨q18, hq18, hf⟩ := k_obd hN hf
                refine g_callV (rest := [.ref (za Z i3)]) O dX0_spell_141 (ct_X5_at hZ h3 hq18) vx_RX0_106 h3 rfl rfl (by decide) (Nat.le_of_ble_eq_true rfl) (fun hp19 => ?_)
                change G Z C y15 144 [(7, .int x4), (1, .ref (za Z i1)), (3, .ref (za Z i3))] [.int q18, .ref (za Z i3)]
                obtain ⟨q20, hq20, hf⟩ := k_obd hN hf
                refine g_callV (rest := []) O dX0_spell_144 (ct_X5_add hZ h3 hq20) vx_RX0_47 h3 rfl rfl (by decide) (Nat.le_of_ble_eq_true rfl) (fun hp21 => ?_)
                change G Z C q20 147 [(7, .int x4), (1, .ref (za Z i1)), (3, .ref (za Z i3))] []
                exact hR _ hf _ _ dX0_spell_147
            · exact hR _ hf _ _ dX0_spell_147
          · skip
            refine g_icmp_ne 120 O dX0_spell_97 (by decide) hf (fun c22 hf => ?_) (fun c22 hf => ?_)
            · refine g_iload O dX0_spell_100 2 rfl ?_
              refine g_iconst O dX0_spell_102 (3 : Int32) (by decide) ?_
              obtain ⟨q23, hq23, hf⟩ := k_obd hN hf
              refine g_callS (rest := []) O dX0_spell_103 (ct_X11_isBelow hZ  hq23) sx_RX0_71 rfl rfl (by decide) (Nat.le_of_ble_eq_true rfl) (fun hp24 => ?_)
              change G Z C q5 106 [(8, .null), (7, .int x4), (6, .int x3), (0, .ref (za Z i0)), (1, .ref (za Z i1)), (3, .ref (za Z i3))] [.int q23]
              refine g_if_eq 120 O dX0_spell_106 (by decide) hf (fun c25 hf => ?_) (fun c25 hf => ?_)
              · refine g_sub [1, 4, 5] rfl ?_
                exact hk15 _ hf
              · refine g_aload_n O dX0_spell_109 5 rfl rfl ?_
                refine g_aload_n O dX0_spell_110 3 rfl rfl ?_
                refine g_getR O dX0_spell_111 fx_RX0_23 h0 ?_
                refine g_iload O dX0_spell_114 2 rfl ?_
                refine g_aald O hN dX0_spell_116 (kf_0_3 h0) (by decide) (el_27 (kf_0_3 h0)) hf (fun hb26 hf => ?_)
                obtain ⟨q27, hq27, hf⟩ := k_obd hN hf
                refine g_callV (rest := []) O dX0_spell_117 (ct_X5_join hZ h3 (ke_27 (kf_0_3 h0) (inb_lt hb26)) hq27) vx_RX0_100 h3 rfl rfl (by decide) (Nat.le_of_ble_eq_true rfl) (fun hp28 => ?_)
                change G Z C q27 120 [(8, .null), (7, .int x4), (6, .int x3), (0, .ref (za Z i0)), (1, .ref (za Z i1)), (3, .ref (za Z i3))] []
                refine g_sub [1, 4, 5] rfl ?_
                exact hk15 _ hf
            · refine g_sub [1, 4, 5] rfl ?_
              exact hk15 _ hf
        · subst he
          have hf := hf1
          change G Z C q5 79 [(7, .int x4), (6, .int x3), (0, .ref (za Z i0)), (1, .ref (za Z i1)), (3, .ref (za Z i3))] [.ref (za Z w14)]
          refine g_astoreP O dX0_spell_79 (by decide) [(8, .ref (za Z w14)), (7, .int x4), (6, .int x3), (0, .ref (za Z i0)), (1, .ref (za Z i1)), (3, .ref (za Z i3))] rfl ?_
          refine g_aload O dX0_spell_81 0 rfl ?_
          refine g_ifnullR O dX0_spell_83 ?_
          refine g_aload_n O dX0_spell_86 5 rfl rfl ?_
          refine g_aload O dX0_spell_87 0 rfl ?_
          obtain ⟨q29, hq29, hf⟩ := k_obd hN hf
          refine g_callV (rest := []) O dX0_spell_89 (ct_X5_join hZ h3 (hp13 _ rfl) hq29) vx_RX0_100 h3 rfl rfl (by decide) (Nat.le_of_ble_eq_true rfl) (fun hp30 => ?_)
          change G Z C q29 92 [(8, .ref (za Z w14)), (7, .int x4), (6, .int x3), (0, .ref (za Z i0)), (1, .ref (za Z i1)), (3, .ref (za Z i3))] []
          refine g_aload_n O dX0_spell_92 4 rfl rfl ?_
          refine g_getI O dX0_spell_93 fx_RX0_86 h1 ?_
          refine g_iconst O dX0_spell_96 (4 : Int32) (by decide) ?_
          refine g_jn (fun (y31 : Mem) => G Z C y31 120 [(7, .int x4), (1, .ref (za Z i1)), (3, .ref (za Z i3))] []) hf (fun y31 hf => ?_) (fun k31 hk31 hf => ?_)
          · refine g_aload_n O dX0_spell_120 1 rfl rfl ?_
            refine g_getI O dX0_spell_121 fx_RX0_86 h1 ?_
            refine g_iconst O dX0_spell_124 (5 : Int32) (by decide) ?_
            refine g_icmp_ne 147 O dX0_spell_125 (by decide) hf (fun c32 hf => ?_) (fun c32 hf => ?_)
            · refine g_iload O dX0_spell_128 0 rfl ?_
              refine g_if_eq 147 O dX0_spell_130 (by decide) hf (fun c33 hf => ?_) (fun c33 hf => ?_)
              · exact hR _ hf _ _ dX0_spell_147
              · refine g_aload_n O dX0_spell_133 2 rfl rfl ?_
                refine g_aload_n O dX0_spell_134 2 rfl rfl ?_
                refine g_aload_n O dX0_spell_135 2 rfl rfl ?_
                refine g_getI O dX0_spell_136 fx_RX0_103 h3 ?_
                refine g_iconst O dX0_spell_139 (1 : Int32) (by decide) ?_
                refine g_isub O dX0_spell_140 ?_
                obtain ⟨q34, hq34, hf⟩ := k_obd hN hf
                refine g_callV (rest := [.ref (za Z i3)]) O dX0_spell_141 (ct_X5_at hZ h3 hq34) vx_RX0_106 h3 rfl rfl (by decide) (Nat.le_of_ble_eq_true rfl) (fun hp35 => ?_)
                change G Z C y31 144 [(7, .int x4), (1, .ref (za Z i1)), (3, .ref (za Z i3))] [.int q34, .ref (za Z i3)]
                obtain ⟨q36, hq36, hf⟩ := k_obd hN hf
                refine g_callV (rest := []) O dX0_spell_144 (ct_X5_add hZ h3 hq36) vx_RX0_47 h3 rfl rfl (by decide) (Nat.le_of_ble_eq_true rfl) (fun hp37 => ?_)
                change G Z C q36 147 [(7, .int x4), (1, .ref (za Z i1)), (3, .ref (za Z i3))] []
                exact hR _ hf _ _ dX0_spell_147
            · exact hR _ hf _ _ dX0_spell_147
          · skip
            refine g_icmp_ne 120 O dX0_spell_97 (by decide) hf (fun c38 hf => ?_) (fun c38 hf => ?_)
            · refine g_iload O dX0_spell_100 2 rfl ?_
              refine g_iconst O dX0_spell_102 (3 : Int32) (by decide) ?_
              obtain ⟨q39, hq39, hf⟩ := k_obd hN hf
              refine g_callS (rest := []) O dX0_spell_103 (ct_X11_isBelow hZ  hq39) sx_RX0_71 rfl rfl (by decide) (Nat.le_of_ble_eq_true rfl) (fun hp40 => ?_)
              change G Z C q29 106 [(8, .ref (za Z w14)), (7, .int x4), (6, .int x3), (0, .ref (za Z i0)), (1, .ref (za Z i1)), (3, .ref (za Z i3))] [.int q39]
              refine g_if_eq 120 O dX0_spell_106 (by decide) hf (fun c41 hf => ?_) (fun c41 hf => ?_)
              · refine g_sub [1, 4, 5] rfl ?_
                exact hk31 _ hf
              · refine g_aload_n O dX0_spell_109 5 rfl rfl ?_
                refine g_aload_n O dX0_spell_110 3 rfl rfl ?_
                refine g_getR O dX0_spell_111 fx_RX0_23 h0 ?_
                refine g_iload O dX0_spell_114 2 rfl ?_
                refine g_aald O hN dX0_spell_116 (kf_0_3 h0) (by decide) (el_27 (kf_0_3 h0)) hf (fun hb42 hf => ?_)
                obtain ⟨q43, hq43, hf⟩ := k_obd hN hf
                refine g_callV (rest := []) O dX0_spell_117 (ct_X5_join hZ h3 (ke_27 (kf_0_3 h0) (inb_lt hb42)) hq43) vx_RX0_100 h3 rfl rfl (by decide) (Nat.le_of_ble_eq_true rfl) (fun hp44 => ?_)
                change G Z C q43 120 [(8, .ref (za Z w14)), (7, .int x4), (6, .int x3), (0, .ref (za Z i0)), (1, .ref (za Z i1)), (3, .ref (za Z i3))] []
                refine g_sub [1, 4, 5] rfl ?_
                exact hk31 _ hf
            · refine g_sub [1, 4, 5] rfl ?_
              exact hk31 _ hf
      · skip
        refine g_icmp_ne 74 O dX0_spell_67 (by decide) hf (fun c45 hf => ?_) (fun c45 hf => ?_)
        · refine g_iconst O dX0_spell_70 (0 : Int32) (by decide) ?_
          refine g_goto 76 O dX0_spell_71 (by decide) ?_
          refine g_sub [0, 1, 3, 4, 5] rfl ?_
          exact hk11 _ hf
        · refine g_iload O dX0_spell_74 2 rfl ?_
          refine g_sub [0, 1, 3, 4, 5] rfl ?_
          exact hk11 _ hf
    · skip
      refine g_if_eq 60 O dX0_spell_52 (by decide) hf (fun c46 hf => ?_) (fun c46 hf => ?_)
      · refine g_iload O dX0_spell_60 3 rfl ?_
        refine g_sub [0, 1, 2, 4, 5, 7] rfl ?_
        exact hk10 _ hf
      · refine g_iload O dX0_spell_55 0 rfl ?_
        refine g_goto 62 O dX0_spell_57 (by decide) ?_
        refine g_sub [0, 1, 2, 4, 5, 7] rfl ?_
        exact hk10 _ hf

set_option maxHeartbeats 4000000 in
set_option maxRecDepth 100000 in
theorem ct_J7_fill_53178 {Z : ZT} (hZ : ZOk Z) {σ : Mem} {i0 : Nat} {p1 : Int32} (h0 : kn i0 = 21) {r : Mem} (hf : fJ7_fill_53178 σ i0 p1 = some r) : Ct Z yJ7_fill_53178 cJ7_fill_53178 4 none 0 0 [.ref (za Z i0), .int p1] σ none True r := by
  refine ct_v hZ (by decide +kernel) (Nat.le_of_ble_eq_true rfl) hf (fun C K O hN hR hf => ?_)
  have O : Ok Z C RJ7 cJ7_fill_53178 4 0 0 := O
  change G Z C σ 0 [(0, .ref (za Z i0)), (1, .int p1)] []
  unfold fJ7_fill_53178 at hf
  refine g_iconst O dJ7_fill_53178_0 (0 : Int32) (by decide) ?_
  refine g_istore_nP O dJ7_fill_53178_1 rfl (by decide) [(2, .int (0 : Int32)), (0, .ref (za Z i0)), (1, .int p1)] rfl ?_
  refine g_aload_n O dJ7_fill_53178_2 1 rfl rfl ?_
  refine g_alen O dJ7_fill_53178_3 h0 (by decide) ?_
  refine g_istore_n O dJ7_fill_53178_4 rfl (by decide) (fun y => [(3, .int y), (2, .int (0 : Int32)), (0, .ref (za Z i0)), (1, .int p1)]) (fun _ => rfl) hf (fun x1 hf => ?_)
  refine g_lp hN (fun (a2 : Int32 × Mem) => G Z C a2.2 5 [(3, .int x1), (2, .int a2.1), (0, .ref (za Z i0)), (1, .int p1)] []) hf (fun a2 _ hN2 hI2 hX2 hf => ?_)
  unfold sJ7_fill_53178_5 at hf
  refine g_iload_n O dJ7_fill_53178_5 1 rfl rfl ?_
  refine g_iload_n O dJ7_fill_53178_6 0 rfl rfl ?_
  refine g_icmp_ge 20 O dJ7_fill_53178_7 (by decide) hf (fun c3 hf => ?_) (fun c3 hf => ?_)
  · have hf := hX2 _ hf
    exact hR _ hf _ _ dJ7_fill_53178_20
  · refine g_aload_n O dJ7_fill_53178_10 2 rfl rfl ?_
    refine g_iload_n O dJ7_fill_53178_11 1 rfl rfl ?_
    refine g_iload_n O dJ7_fill_53178_12 3 rfl rfl ?_
    refine g_iast O hN2 dJ7_fill_53178_13 h0 hf (fun m4 hf => ?_)
    refine g_iinc O dJ7_fill_53178_14 1 rfl (by decide) (1) (by decide) (fun y => [(2, .int y), (3, .int x1), (0, .ref (za Z i0)), (1, .int p1)]) (fun _ => rfl) hf (fun x5 hf => ?_)
    refine g_goto 5 O dJ7_fill_53178_17 (by decide) ?_
    refine g_sub [1, 0, 2, 3] rfl ?_
    exact hI2 _ hf

set_option maxHeartbeats 4000000 in
set_option maxRecDepth 100000 in
theorem ct_X2_begin {Z : ZT} (hZ : ZOk Z) {σ : Mem} {i0 : Nat} {p1 : Int32} {p2 : Int32} (h0 : kn i0 = 2) {r : Mem} (hf : fX2_begin σ i0 p1 p2 = some r) : Ct Z yX2_begin cX2_begin 3 none 1 23 [.ref (za Z i0), .int p1, .int p2] σ none True r := by
  refine ct_v hZ (by decide +kernel) (Nat.le_of_ble_eq_true rfl) hf (fun C K O hN hR hf => ?_)
  have O : Ok Z C RX2 cX2_begin 3 1 23 := O
  change G Z C σ 0 [(0, .ref (za Z i0)), (1, .int p1), (2, .int p2)] []
  unfold fX2_begin at hf
  refine g_aload_n O dX2_begin_0 0 rfl rfl ?_
  refine g_iload_n O dX2_begin_1 1 rfl rfl ?_
  refine g_putI O dX2_begin_2 fp_RX2_9 h0 hf (fun m1 hf => ?_)
  refine g_aload_n O dX2_begin_5 0 rfl rfl ?_
  refine g_iload_n O dX2_begin_6 2 rfl rfl ?_
  refine g_putI O dX2_begin_7 fp_RX2_19 h0 hf (fun m2 hf => ?_)
  refine g_aload_n O dX2_begin_10 0 rfl rfl ?_
  refine g_iconst O dX2_begin_11 (0 : Int32) (by decide) ?_
  refine g_putI O dX2_begin_12 fp_RX2_22 h0 hf (fun m3 hf => ?_)
  refine g_aload_n O dX2_begin_15 0 rfl rfl ?_
  refine g_getR O dX2_begin_16 fx_RX2_15 h0 ?_
  refine g_iconst O dX2_begin_19 (-1 : Int32) (by decide) ?_
  obtain ⟨q4, hq4, hf⟩ := k_obd hN hf
  refine g_callS (rest := []) O dX2_begin_20 (ct_J7_fill_53178 hZ (kf_2_3 h0) hq4) sx_RX2_25 rfl rfl (by decide) (Nat.le_of_ble_eq_true rfl) (fun hp5 => ?_)
  change G Z C q4 23 [(0, .ref (za Z i0)), (1, .int p1), (2, .int p2)] []
  exact hR _ hf _ _ dX2_begin_23

set_option maxHeartbeats 4000000 in
set_option maxRecDepth 100000 in
theorem ct_X2_fill {Z : ZT} (hZ : ZOk Z) {σ : Mem} {i0 : Nat} {p1 : Int32} {p2 : Int32} (h0 : kn i0 = 2) {r : Mem} (hf : fX2_fill σ i0 p1 p2 = some r) : Ct Z yX2_fill cX2_fill 3 none 1 21 [.ref (za Z i0), .int p1, .int p2] σ none True r := by
  refine ct_v hZ (by decide +kernel) (Nat.le_of_ble_eq_true rfl) hf (fun C K O hN hR hf => ?_)
  have O : Ok Z C RX2 cX2_fill 3 1 21 := O
  change G Z C σ 0 [(0, .ref (za Z i0)), (1, .int p1), (2, .int p2)] []
  unfold fX2_fill at hf
  refine g_iload_n O dX2_fill_0 1 rfl rfl ?_
  refine g_bipush O dX2_fill_1 (6 : Int32) (by decide) ?_
  obtain ⟨q1, hq1, hf⟩ := k_obd hN hf
  refine g_callS (rest := []) O dX2_fill_3 (ct_X11_isBelow hZ  hq1) sx_RX2_37 rfl rfl (by decide) (Nat.le_of_ble_eq_true rfl) (fun hp2 => ?_)
  change G Z C σ 6 [(0, .ref (za Z i0)), (1, .int p1), (2, .int p2)] [.int q1]
  refine g_if_eq 16 O dX2_fill_6 (by decide) hf (fun c3 hf => ?_) (fun c3 hf => ?_)
  · exact hR _ hf _ _ dX2_fill_16
  · refine g_aload_n O dX2_fill_9 0 rfl rfl ?_
    refine g_getR O dX2_fill_10 fx_RX2_15 h0 ?_
    refine g_iload_n O dX2_fill_13 1 rfl rfl ?_
    refine g_iload_n O dX2_fill_14 2 rfl rfl ?_
    refine g_iast O hN dX2_fill_15 (kf_2_3 h0) hf (fun m4 hf => ?_)
    exact hR _ hf _ _ dX2_fill_16

set_option maxHeartbeats 4000000 in
set_option maxRecDepth 100000 in
theorem ct_X2_wordIn {Z : ZT} (hZ : ZOk Z) {σ : Mem} {i0 : Nat} {p1 : Int32} (h0 : kn i0 = 2) {r : Int32} (hf : fX2_wordIn σ i0 p1 = some r) : Ct Z yX2_wordIn cX2_wordIn 2 (some .int) 1 21 [.ref (za Z i0), .int p1] σ (some (.int r)) True σ := by
  refine ct_i hZ (by decide +kernel) (Nat.le_of_ble_eq_true rfl) hf (fun C K O hN hR hf => ?_)
  have O : Ok Z C RX2 cX2_wordIn 2 1 21 := O
  change G Z C σ 0 [(0, .ref (za Z i0)), (1, .int p1)] []
  unfold fX2_wordIn at hf
  refine g_iload_n O dX2_wordIn_0 1 rfl rfl ?_
  refine g_bipush O dX2_wordIn_1 (6 : Int32) (by decide) ?_
  obtain ⟨q1, hq1, hf⟩ := k_obd hN hf
  refine g_callS (rest := []) O dX2_wordIn_3 (ct_X11_isBelow hZ  hq1) sx_RX2_37 rfl rfl (by decide) (Nat.le_of_ble_eq_true rfl) (fun hp2 => ?_)
  change G Z C σ 6 [(0, .ref (za Z i0)), (1, .int p1)] [.int q1]
  refine g_if_eq 18 O dX2_wordIn_6 (by decide) hf (fun c3 hf => ?_) (fun c3 hf => ?_)
  · refine g_iconst O dX2_wordIn_18 (-1 : Int32) (by decide) ?_
    exact hR _ hf _ _ dX2_wordIn_19
  · refine g_aload_n O dX2_wordIn_9 0 rfl rfl ?_
    refine g_getR O dX2_wordIn_10 fx_RX2_15 h0 ?_
    refine g_iload_n O dX2_wordIn_13 1 rfl rfl ?_
    refine g_iald O hN dX2_wordIn_14 (kf_2_3 h0) hf (fun hf => ?_)
    refine g_goto 19 O dX2_wordIn_15 (by decide) ?_
    exact hR _ hf _ _ dX2_wordIn_19

set_option maxHeartbeats 4000000 in
set_option maxRecDepth 100000 in
theorem ct_X3_clear {Z : ZT} (hZ : ZOk Z) {σ : Mem} {i0 : Nat} (h0 : kn i0 = 3) {r : Mem} (hf : fX3_clear σ i0 = some r) : Ct Z yX3_clear cX3_clear 1 none 1 23 [.ref (za Z i0)] σ none True r := by
  refine ct_v hZ (by decide +kernel) (Nat.le_of_ble_eq_true rfl) hf (fun C K O hN hR hf => ?_)
  have O : Ok Z C RX3 cX3_clear 1 1 23 := O
  change G Z C σ 0 [(0, .ref (za Z i0))] []
  unfold fX3_clear at hf
  refine g_aload_n O dX3_clear_0 0 rfl rfl ?_
  refine g_iconst O dX3_clear_1 (0 : Int32) (by decide) ?_
  refine g_putI O dX3_clear_2 fp_RX3_27 h0 hf (fun m1 hf => ?_)
  refine g_aload_n O dX3_clear_5 0 rfl rfl ?_
  refine g_getR O dX3_clear_6 fx_RX3_24 h0 ?_
  refine g_iconst O dX3_clear_9 (-1 : Int32) (by decide) ?_
  obtain ⟨q2, hq2, hf⟩ := k_obd hN hf
  refine g_callS (rest := []) O dX3_clear_10 (ct_J7_fill_53178 hZ (kf_3_5 h0) hq2) sx_RX3_31 rfl rfl (by decide) (Nat.le_of_ble_eq_true rfl) (fun hp3 => ?_)
  change G Z C q2 13 [(0, .ref (za Z i0))] []
  exact hR _ hf _ _ dX3_clear_13

set_option maxHeartbeats 4000000 in
set_option maxRecDepth 100000 in
theorem ct_X3_add {Z : ZT} (hZ : ZOk Z) {σ : Mem} {i0 : Nat} {p1 : Int32} {p2 : Int32} {p3 : Int32} {p4 : Int32} (h0 : kn i0 = 3) {r : Mem} (hf : fX3_add σ i0 p1 p2 p3 p4 = some r) : Ct Z yX3_add cX3_add 5 none 1 21 [.ref (za Z i0), .int p1, .int p2, .int p3, .int p4] σ none True r := by
  refine ct_v hZ (by decide +kernel) (Nat.le_of_ble_eq_true rfl) hf (fun C K O hN hR hf => ?_)
  have O : Ok Z C RX3 cX3_add 5 1 21 := O
  change G Z C σ 0 [(0, .ref (za Z i0)), (1, .int p1), (2, .int p2), (3, .int p3), (4, .int p4)] []
  unfold fX3_add at hf
  refine g_aload_n O dX3_add_0 0 rfl rfl ?_
  refine g_getI O dX3_add_1 fx_RX3_27 h0 ?_
  refine g_bipush O dX3_add_4 (6 : Int32) (by decide) ?_
  refine g_icmp_lt 10 O dX3_add_6 (by decide) hf (fun c1 hf => ?_) (fun c1 hf => ?_)
  · refine g_aload_n O dX3_add_10 0 rfl rfl ?_
    refine g_getR O dX3_add_11 fx_RX3_9 h0 ?_
    refine g_aload_n O dX3_add_14 0 rfl rfl ?_
    refine g_getI O dX3_add_15 fx_RX3_27 h0 ?_
    refine g_iload_n O dX3_add_18 1 rfl rfl ?_
    refine g_iast O hN dX3_add_19 (kf_3_1 h0) hf (fun m2 hf => ?_)
    refine g_aload_n O dX3_add_20 0 rfl rfl ?_
    refine g_getR O dX3_add_21 fx_RX3_15 h0 ?_
    refine g_aload_n O dX3_add_24 0 rfl rfl ?_
    refine g_getI O dX3_add_25 fx_RX3_27 h0 ?_
    refine g_iload_n O dX3_add_28 2 rfl rfl ?_
    refine g_iast O hN dX3_add_29 (kf_3_2 h0) hf (fun m3 hf => ?_)
    refine g_aload_n O dX3_add_30 0 rfl rfl ?_
    refine g_getR O dX3_add_31 fx_RX3_18 h0 ?_
    refine g_aload_n O dX3_add_34 0 rfl rfl ?_
    refine g_getI O dX3_add_35 fx_RX3_27 h0 ?_
    refine g_iload_n O dX3_add_38 3 rfl rfl ?_
    refine g_iast O hN dX3_add_39 (kf_3_3 h0) hf (fun m4 hf => ?_)
    refine g_aload_n O dX3_add_40 0 rfl rfl ?_
    refine g_getR O dX3_add_41 fx_RX3_21 h0 ?_
    refine g_aload_n O dX3_add_44 0 rfl rfl ?_
    refine g_getI O dX3_add_45 fx_RX3_27 h0 ?_
    refine g_iload O dX3_add_48 4 rfl ?_
    refine g_iast O hN dX3_add_50 (kf_3_4 h0) hf (fun m5 hf => ?_)
    refine g_iload_n O dX3_add_51 1 rfl rfl ?_
    refine g_jn (fun (y6 : Mem) => G Z C y6 73 [(0, .ref (za Z i0))] []) hf (fun y6 hf => ?_) (fun k6 hk6 hf => ?_)
    · refine g_aload_n O dX3_add_73 0 rfl rfl ?_
      refine g_dup O dX3_add_74 rfl ?_
      refine g_getI O dX3_add_75 fx_RX3_27 h0 ?_
      refine g_iconst O dX3_add_78 (1 : Int32) (by decide) ?_
      refine g_iadd O dX3_add_79 ?_
      refine g_putI O dX3_add_80 fp_RX3_27 h0 hf (fun m7 hf => ?_)
      exact hR _ hf _ _ dX3_add_83
    · skip
      refine g_if_ne 73 O dX3_add_52 (by decide) hf (fun c8 hf => ?_) (fun c8 hf => ?_)
      · refine g_iload_n O dX3_add_55 2 rfl rfl ?_
        refine g_iconst O dX3_add_56 (3 : Int32) (by decide) ?_
        obtain ⟨q9, hq9, hf⟩ := k_obd hN hf
        refine g_callS (rest := []) O dX3_add_57 (ct_X11_isBelow hZ  hq9) sx_RX3_37 rfl rfl (by decide) (Nat.le_of_ble_eq_true rfl) (fun hp10 => ?_)
        change G Z C m5 60 [(0, .ref (za Z i0)), (1, .int p1), (2, .int p2), (3, .int p3), (4, .int p4)] [.int q9]
        refine g_if_eq 73 O dX3_add_60 (by decide) hf (fun c11 hf => ?_) (fun c11 hf => ?_)
        · refine g_sub [0] rfl ?_
          exact hk6 _ hf
        · refine g_aload_n O dX3_add_63 0 rfl rfl ?_
          refine g_getR O dX3_add_64 fx_RX3_24 h0 ?_
          refine g_iload_n O dX3_add_67 2 rfl rfl ?_
          refine g_aload_n O dX3_add_68 0 rfl rfl ?_
          refine g_getI O dX3_add_69 fx_RX3_27 h0 ?_
          refine g_iast O hN dX3_add_72 (kf_3_5 h0) hf (fun m12 hf => ?_)
          refine g_sub [0] rfl ?_
          exact hk6 _ hf
      · refine g_sub [0] rfl ?_
        exact hk6 _ hf
  · exact hR _ hf _ _ dX3_add_9

set_option maxHeartbeats 4000000 in
set_option maxRecDepth 100000 in
theorem ct_X3_groupOf {Z : ZT} (hZ : ZOk Z) {σ : Mem} {i0 : Nat} {p1 : Int32} (h0 : kn i0 = 3) {r : Int32} (hf : fX3_groupOf σ i0 p1 = some r) : Ct Z yX3_groupOf cX3_groupOf 2 (some .int) 1 21 [.ref (za Z i0), .int p1] σ (some (.int r)) True σ := by
  refine ct_i hZ (by decide +kernel) (Nat.le_of_ble_eq_true rfl) hf (fun C K O hN hR hf => ?_)
  have O : Ok Z C RX3 cX3_groupOf 2 1 21 := O
  change G Z C σ 0 [(0, .ref (za Z i0)), (1, .int p1)] []
  unfold fX3_groupOf at hf
  refine g_aload_n O dX3_groupOf_0 0 rfl rfl ?_
  refine g_iload_n O dX3_groupOf_1 1 rfl rfl ?_
  obtain ⟨q1, hq1, hf⟩ := k_obd hN hf
  refine g_callV (rest := []) O dX3_groupOf_2 (ct_X3_has hZ h0 hq1) vx_RX3_47 h0 rfl rfl (by decide) (Nat.le_of_ble_eq_true rfl) (fun hp2 => ?_)
  change G Z C σ 5 [(0, .ref (za Z i0)), (1, .int p1)] [.int q1]
  refine g_if_eq 17 O dX3_groupOf_5 (by decide) hf (fun c3 hf => ?_) (fun c3 hf => ?_)
  · refine g_iconst O dX3_groupOf_17 (-1 : Int32) (by decide) ?_
    exact hR _ hf _ _ dX3_groupOf_18
  · refine g_aload_n O dX3_groupOf_8 0 rfl rfl ?_
    refine g_getR O dX3_groupOf_9 fx_RX3_15 h0 ?_
    refine g_iload_n O dX3_groupOf_12 1 rfl rfl ?_
    refine g_iald O hN dX3_groupOf_13 (kf_3_2 h0) hf (fun hf => ?_)
    refine g_goto 18 O dX3_groupOf_14 (by decide) ?_
    exact hR _ hf _ _ dX3_groupOf_18

