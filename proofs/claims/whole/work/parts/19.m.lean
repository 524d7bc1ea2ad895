set_option maxHeartbeats 4000000 in
set_option maxRecDepth 100000 in
theorem ct_X12_readings {Z : ZT} (hZ : ZOk Z) {σ : Mem} {i0 : Nat} {p1 : Int32} (h0 : kn i0 = 12) {r : (Int32 × Mem)} (hf : fX12_readings σ i0 p1 = some r) : Ct Z yX12_readings cX12_readings 3 (some .int) 9 228 [.ref (za Z i0), .int p1] σ (some (.int r.1)) True r.2 := by
  refine ct_im hZ (by decide +kernel) (Nat.le_of_ble_eq_true rfl) hf (fun C K O hN hR hf => ?_)
  have O : Ok Z C RX12 cX12_readings 3 9 228 := O
  change G Z C σ 0 [(0, .ref (za Z i0)), (1, .int p1)] []
  unfold fX12_readings at hf
  refine g_iload_n O dX12_readings_0 1 rfl rfl ?_
  refine g_iconst O dX12_readings_1 (0 : Int32) (by decide) ?_
  refine g_iconst O dX12_readings_2 (2 : Int32) (by decide) ?_
  obtain ⟨q1, hq1, hf⟩ := k_obd hN hf
  refine g_callS (rest := []) O dX12_readings_3 (ct_X12_isIn hZ  hq1) sx_RX12_64 rfl rfl (by decide) (Nat.le_of_ble_eq_true rfl) (fun hp2 => ?_)
  change G Z C σ 6 [(0, .ref (za Z i0)), (1, .int p1)] [.int q1]
  refine g_if_ne 12 O dX12_readings_6 (by decide) hf (fun c3 hf => ?_) (fun c3 hf => ?_)
  · refine g_bipush O dX12_readings_9 (-2 : Int32) (by decide) ?_
    exact hR _ _ hf _ _ dX12_readings_11
  · refine g_aload_n O dX12_readings_12 0 rfl rfl ?_
    obtain ⟨q4, hq4, hf⟩ := k_obd hN hf
    refine g_callV (rest := []) O dX12_readings_13 (ct_X12_takesText hZ h0 hq4) vx_RX12_238 h0 rfl rfl (by decide) (Nat.le_of_ble_eq_true rfl) (fun hp5 => ?_)
    change G Z C q4 16 [(0, .ref (za Z i0)), (1, .int p1)] []
    refine g_aload_n O dX12_readings_16 0 rfl rfl ?_
    obtain ⟨q6, hq6, hf⟩ := k_obd hN hf
    refine g_callV (rest := []) O dX12_readings_17 (ct_X12_counted hZ h0 hq6) vx_RX12_241 h0 rfl rfl (by decide) (Nat.le_of_ble_eq_true rfl) (fun hp7 => ?_)
    change G Z C q6.2 20 [(0, .ref (za Z i0)), (1, .int p1)] [.int q6.1]
    refine g_istore_nP O dX12_readings_20 rfl (by decide) [(2, .int q6.1), (0, .ref (za Z i0)), (1, .int p1)] rfl ?_
    refine g_iload_n O dX12_readings_21 2 rfl rfl ?_
    refine g_if_ne 29 O dX12_readings_22 (by decide) hf (fun c8 hf => ?_) (fun c8 hf => ?_)
    · refine g_iload_n O dX12_readings_25 0 rfl rfl ?_
      refine g_goto 45 O dX12_readings_26 (by decide) ?_
      exact hR _ _ hf _ _ dX12_readings_45
    · refine g_iload_n O dX12_readings_29 2 rfl rfl ?_
      refine g_iconst O dX12_readings_30 (1 : Int32) (by decide) ?_
      refine g_icmp_ne 41 O dX12_readings_31 (by decide) hf (fun c9 hf => ?_) (fun c9 hf => ?_)
      · refine g_aload_n O dX12_readings_34 1 rfl rfl ?_
        refine g_getI O dX12_readings_35 fx_RX12_225 h0 ?_
        refine g_goto 45 O dX12_readings_38 (by decide) ?_
        exact hR _ _ hf _ _ dX12_readings_45
      · refine g_aload_n O dX12_readings_41 1 rfl rfl ?_
        refine g_getI O dX12_readings_42 fx_RX12_228 h0 ?_
        exact hR _ _ hf _ _ dX12_readings_45

set_option maxHeartbeats 4000000 in
set_option maxRecDepth 100000 in
theorem ct_X12_near {Z : ZT} (hZ : ZOk Z) {σ : Mem} {i0 : Nat} {p1 : Int32} (h0 : kn i0 = 12) {r : (Int32 × Mem)} (hf : fX12_near σ i0 p1 = some r) : Ct Z yX12_near cX12_near 7 (some .int) 8 204 [.ref (za Z i0), .int p1] σ (some (.int r.1)) True r.2 := by
  refine ct_im hZ (by decide +kernel) (Nat.le_of_ble_eq_true rfl) hf (fun C K O hN hR hf => ?_)
  have O : Ok Z C RX12 cX12_near 7 8 204 := O
  change G Z C σ 0 [(0, .ref (za Z i0)), (1, .int p1)] []
  unfold fX12_near at hf
  refine g_iload_n O dX12_near_0 1 rfl rfl ?_
  refine g_iconst O dX12_near_1 (0 : Int32) (by decide) ?_
  refine g_iconst O dX12_near_2 (1 : Int32) (by decide) ?_
  obtain ⟨q1, hq1, hf⟩ := k_obd hN hf
  refine g_callS (rest := []) O dX12_near_3 (ct_X12_isIn hZ  hq1) sx_RX12_64 rfl rfl (by decide) (Nat.le_of_ble_eq_true rfl) (fun hp2 => ?_)
  change G Z C σ 6 [(0, .ref (za Z i0)), (1, .int p1)] [.int q1]
  refine g_if_ne 12 O dX12_near_6 (by decide) hf (fun c3 hf => ?_) (fun c3 hf => ?_)
  · refine g_bipush O dX12_near_9 (-2 : Int32) (by decide) ?_
    exact hR _ _ hf _ _ dX12_near_11
  · refine g_aload_n O dX12_near_12 0 rfl rfl ?_
    obtain ⟨q4, hq4, hf⟩ := k_obd hN hf
    refine g_callV (rest := []) O dX12_near_13 (ct_X12_takesText hZ h0 hq4) vx_RX12_238 h0 rfl rfl (by decide) (Nat.le_of_ble_eq_true rfl) (fun hp5 => ?_)
    change G Z C q4 16 [(0, .ref (za Z i0)), (1, .int p1)] []
    refine g_aload_n O dX12_near_16 0 rfl rfl ?_
    obtain ⟨q6, hq6, hf⟩ := k_obd hN hf
    refine g_callV (rest := []) O dX12_near_17 (ct_X12_parts hZ h0 hq6) vx_RX12_231 h0 rfl rfl (by decide) (Nat.le_of_ble_eq_true rfl) (fun hp7 => ?_)
    change G Z C q6 20 [(0, .ref (za Z i0)), (1, .int p1)] []
    refine g_ldc O dX12_near_20 lc_RX12_207 ?_
    refine g_istore_nP O dX12_near_22 rfl (by decide) [(2, .int (1000000 : Int32)), (0, .ref (za Z i0)), (1, .int p1)] rfl ?_
    refine g_iconst O dX12_near_23 (-1 : Int32) (by decide) ?_
    refine g_istore_nP O dX12_near_24 rfl (by decide) [(3, .int (-1 : Int32)), (2, .int (1000000 : Int32)), (0, .ref (za Z i0)), (1, .int p1)] rfl ?_
    refine g_iconst O dX12_near_25 (0 : Int32) (by decide) ?_
    refine g_istoreP O dX12_near_26 (by decide) [(4, .int (0 : Int32)), (3, .int (-1 : Int32)), (2, .int (1000000 : Int32)), (0, .ref (za Z i0)), (1, .int p1)] rfl ?_
    refine g_lp hN (fun (a8 : Int32 × Int32 × Int32 × Mem) => G Z C a8.2.2.2 28 [(4, .int a8.1), (3, .int a8.2.1), (2, .int a8.2.2.1), (0, .ref (za Z i0)), (1, .int p1)] []) hf (fun a8 _ hN8 hI8 hX8 hf => ?_)
    unfold sX12_near_28 at hf
    refine g_iload O dX12_near_28 0 rfl ?_
    refine g_aload_n O dX12_near_30 3 rfl rfl ?_
    refine g_getR O dX12_near_31 fx_RX12_9 h0 ?_
    refine g_iconst O dX12_near_34 (1 : Int32) (by decide) ?_
    refine g_iald O hN8 dX12_near_35 (kf_12_0 h0) hf (fun hf => ?_)
    refine g_icmp_ge 102 O dX12_near_36 (by decide) hf (fun c9 hf => ?_) (fun c9 hf => ?_)
    · have hf := hX8 _ hf
      refine g_iload_n O dX12_near_102 4 rfl rfl ?_
      refine g_iconst O dX12_near_103 (1 : Int32) (by decide) ?_
      refine g_icmp_eq 111 O dX12_near_104 (by decide) hf (fun c10 hf => ?_) (fun c10 hf => ?_)
      · refine g_iload_n O dX12_near_111 1 rfl rfl ?_
        refine g_goto 116 O dX12_near_112 (by decide) ?_
        exact hR _ _ hf _ _ dX12_near_116
      · refine g_iload_n O dX12_near_107 1 rfl rfl ?_
        refine g_if_ge 115 O dX12_near_108 (by decide) hf (fun c11 hf => ?_) (fun c11 hf => ?_)
        · refine g_iload_n O dX12_near_115 2 rfl rfl ?_
          exact hR _ _ hf _ _ dX12_near_116
        · refine g_iload_n O dX12_near_111 1 rfl rfl ?_
          refine g_goto 116 O dX12_near_112 (by decide) ?_
          exact hR _ _ hf _ _ dX12_near_116
    · refine g_aload_n O dX12_near_39 3 rfl rfl ?_
      refine g_iload O dX12_near_40 0 rfl ?_
      obtain ⟨q12, hq12, hf⟩ := k_obd hN8 hf
      refine g_callV (rest := []) O dX12_near_42 (ct_X12_holes hZ h0 hq12) vx_RX12_154 h0 rfl rfl (by decide) (Nat.le_of_ble_eq_true rfl) (fun hp13 => ?_)
      change G Z C a8.2.2.2 45 [(4, .int a8.1), (3, .int a8.2.1), (2, .int a8.2.2.1), (0, .ref (za Z i0)), (1, .int p1)] [.int q12]
      refine g_aload_n O dX12_near_45 3 rfl rfl ?_
      refine g_getI O dX12_near_46 fx_RX12_204 h0 ?_
      refine g_icmp_eq 55 O dX12_near_49 (by decide) hf (fun c14 hf => ?_) (fun c14 hf => ?_)
      · refine g_iconst O dX12_near_55 (0 : Int32) (by decide) ?_
        refine g_istoreP O dX12_near_56 (by decide) [(5, .int (0 : Int32)), (4, .int a8.1), (3, .int a8.2.1), (2, .int a8.2.2.1), (0, .ref (za Z i0)), (1, .int p1)] rfl ?_
        refine g_lp hN8 (fun (a15 : Int32 × Int32 × Int32 × Mem) => G Z C a15.2.2.2 58 [(5, .int a15.1), (4, .int a8.1), (3, .int a15.2.1), (2, .int a15.2.2.1), (0, .ref (za Z i0)), (1, .int p1)] []) hf (fun a15 _ hN15 hI15 hX15 hf => ?_)
        unfold sX12_near_58 at hf
        refine g_iload O dX12_near_58 0 rfl ?_
        refine g_iconst O dX12_near_60 (4 : Int32) (by decide) ?_
        refine g_icmp_ge 96 O dX12_near_61 (by decide) hf (fun c16 hf => ?_) (fun c16 hf => ?_)
        · have hf := hX15 _ hf
          refine g_iinc O dX12_near_96 1 rfl (by decide) (1) (by decide) (fun y => [(4, .int y), (5, .int a15.1), (3, .int a15.2.1), (2, .int a15.2.2.1), (0, .ref (za Z i0)), (1, .int p1)]) (fun _ => rfl) hf (fun x17 hf => ?_)
          refine g_goto 28 O dX12_near_99 (by decide) ?_
          refine g_sub [0, 2, 3, 4, 5] rfl ?_
          exact hI8 _ hf
        · refine g_aload_n O dX12_near_64 4 rfl rfl ?_
          refine g_iload O dX12_near_65 1 rfl ?_
          refine g_iload O dX12_near_67 0 rfl ?_
          refine g_iconst O dX12_near_69 (1 : Int32) (by decide) ?_
          obtain ⟨q18, hq18, hf⟩ := k_obd hN15 hf
          refine g_callV (rest := []) O dX12_near_70 (ct_X12_byFrame hZ h0 hq18) vx_RX12_234 h0 rfl rfl (by decide) (Nat.le_of_ble_eq_true rfl) (fun hp19 => ?_)
          change G Z C q18.2 73 [(5, .int a15.1), (4, .int a8.1), (3, .int a15.2.1), (2, .int a15.2.2.1), (0, .ref (za Z i0)), (1, .int p1)] [.int q18.1]
          refine g_istoreP O dX12_near_73 (by decide) [(6, .int q18.1), (5, .int a15.1), (4, .int a8.1), (3, .int a15.2.1), (2, .int a15.2.2.1), (0, .ref (za Z i0)), (1, .int p1)] rfl ?_
          refine g_iload O dX12_near_75 0 rfl ?_
          refine g_iload_n O dX12_near_77 4 rfl rfl ?_
          refine g_icmp_lt 84 O dX12_near_78 (by decide) hf (fun c20 hf => ?_) (fun c20 hf => ?_)
          · refine g_iload O dX12_near_84 0 rfl ?_
            refine g_istore_nP O dX12_near_86 rfl (by decide) [(2, .int q18.1), (6, .int q18.1), (5, .int a15.1), (4, .int a8.1), (3, .int a15.2.1), (0, .ref (za Z i0)), (1, .int p1)] rfl ?_
            refine g_iload O dX12_near_87 3 rfl ?_
            refine g_istore_nP O dX12_near_89 rfl (by decide) [(3, .int a8.1), (2, .int q18.1), (6, .int q18.1), (5, .int a15.1), (4, .int a8.1), (0, .ref (za Z i0)), (1, .int p1)] rfl ?_
            refine g_iinc O dX12_near_90 3 rfl (by decide) (1) (by decide) (fun y => [(5, .int y), (3, .int a8.1), (2, .int q18.1), (6, .int q18.1), (4, .int a8.1), (0, .ref (za Z i0)), (1, .int p1)]) (fun _ => rfl) hf (fun x21 hf => ?_)
            refine g_goto 58 O dX12_near_93 (by decide) ?_
            refine g_sub [0, 4, 1, 2, 5, 6] rfl ?_
            exact hI15 _ hf
          · refine g_goto 90 O dX12_near_81 (by decide) ?_
            refine g_iinc O dX12_near_90 1 rfl (by decide) (1) (by decide) (fun y => [(5, .int y), (6, .int q18.1), (4, .int a8.1), (3, .int a15.2.1), (2, .int a15.2.2.1), (0, .ref (za Z i0)), (1, .int p1)]) (fun _ => rfl) hf (fun x22 hf => ?_)
            refine g_goto 58 O dX12_near_93 (by decide) ?_
            refine g_sub [0, 2, 3, 4, 5, 6] rfl ?_
            exact hI15 _ hf
      · refine g_goto 96 O dX12_near_52 (by decide) ?_
        refine g_iinc O dX12_near_96 0 rfl (by decide) (1) (by decide) (fun y => [(4, .int y), (3, .int a8.2.1), (2, .int a8.2.2.1), (0, .ref (za Z i0)), (1, .int p1)]) (fun _ => rfl) hf (fun x23 hf => ?_)
        refine g_goto 28 O dX12_near_99 (by decide) ?_
        exact hI8 _ hf

set_option maxHeartbeats 4000000 in
set_option maxRecDepth 100000 in
theorem ct_X12_draws {Z : ZT} (hZ : ZOk Z) {σ : Mem} {i0 : Nat} {p1 : Int32} (h0 : kn i0 = 12) {r : (Int32 × Mem)} (hf : fX12_draws σ i0 p1 = some r) : Ct Z yX12_draws cX12_draws 2 (some .int) 0 0 [.ref (za Z i0), .int p1] σ (some (.int r.1)) True r.2 := by
  refine ct_im hZ (by decide +kernel) (Nat.le_of_ble_eq_true rfl) hf (fun C K O hN hR hf => ?_)
  have O : Ok Z C RX12 cX12_draws 2 0 0 := O
  change G Z C σ 0 [(0, .ref (za Z i0)), (1, .int p1)] []
  unfold fX12_draws at hf
  refine g_aload_n O dX12_draws_0 0 rfl rfl ?_
  refine g_aload_n O dX12_draws_1 0 rfl rfl ?_
  refine g_getI O dX12_draws_2 fx_RX12_244 h0 ?_
  refine g_ldc O dX12_draws_5 lc_RX12_247 ?_
  refine g_imul O dX12_draws_7 ?_
  refine g_sipush O dX12_draws_8 (12345 : Int32) (by decide) ?_
  refine g_iadd O dX12_draws_11 ?_
  refine g_putI O dX12_draws_12 fp_RX12_244 h0 hf (fun m1 hf => ?_)
  refine g_iload_n O dX12_draws_15 1 rfl rfl ?_
  refine g_if_ne 23 O dX12_draws_16 (by decide) hf (fun c2 hf => ?_) (fun c2 hf => ?_)
  · refine g_iconst O dX12_draws_19 (-1 : Int32) (by decide) ?_
    refine g_goto 32 O dX12_draws_20 (by decide) ?_
    exact hR _ _ hf _ _ dX12_draws_32
  · refine g_aload_n O dX12_draws_23 0 rfl rfl ?_
    refine g_getI O dX12_draws_24 fx_RX12_244 h0 ?_
    refine g_bipush O dX12_draws_27 (9 : Int32) (by decide) ?_
    refine g_iushr O dX12_draws_29 ?_
    refine g_iload_n O dX12_draws_30 1 rfl rfl ?_
    refine g_irem O hN dX12_draws_31 hf (fun hf => ?_)
    exact hR _ _ hf _ _ dX12_draws_32

set_option maxHeartbeats 4000000 in
set_option maxRecDepth 100000 in
theorem ct_X12_drawsLine {Z : ZT} (hZ : ZOk Z) {σ : Mem} {i0 : Nat} {p1 : Int32} (h0 : kn i0 = 12) {r : Mem} (hf : fX12_drawsLine σ i0 p1 = some r) : Ct Z yX12_drawsLine cX12_drawsLine 6 none 6 148 [.ref (za Z i0), .int p1] σ none True r := by
  refine ct_v hZ (by decide +kernel) (Nat.le_of_ble_eq_true rfl) hf (fun C K O hN hR hf => ?_)
  have O : Ok Z C RX12 cX12_drawsLine 6 6 148 := O
  change G Z C σ 0 [(0, .ref (za Z i0)), (1, .int p1)] []
  unfold fX12_drawsLine at hf
  refine g_aload_n O dX12_drawsLine_0 0 rfl rfl ?_
  refine g_iload_n O dX12_drawsLine_1 1 rfl rfl ?_
  refine g_putI O dX12_drawsLine_2 fp_RX12_244 h0 hf (fun m1 hf => ?_)
  refine g_aload_n O dX12_drawsLine_5 0 rfl rfl ?_
  refine g_aload_n O dX12_drawsLine_6 0 rfl rfl ?_
  refine g_getR O dX12_drawsLine_7 fx_RX12_9 h0 ?_
  refine g_iconst O dX12_drawsLine_10 (1 : Int32) (by decide) ?_
  refine g_iald O hN dX12_drawsLine_11 (kf_12_0 h0) hf (fun hf => ?_)
  obtain ⟨q2, hq2, hf⟩ := k_obd hN hf
  refine g_callV (rest := []) O dX12_drawsLine_12 (ct_X12_draws hZ h0 hq2) vx_RX12_248 h0 rfl rfl (by decide) (Nat.le_of_ble_eq_true rfl) (fun hp3 => ?_)
  change G Z C q2.2 15 [(0, .ref (za Z i0)), (1, .int p1)] [.int q2.1]
  refine g_istore_nP O dX12_drawsLine_15 rfl (by decide) [(2, .int q2.1), (0, .ref (za Z i0)), (1, .int p1)] rfl ?_
  refine g_aload_n O dX12_drawsLine_16 1 rfl rfl ?_
  refine g_iconst O dX12_drawsLine_17 (4 : Int32) (by decide) ?_
  obtain ⟨q4, hq4, hf⟩ := k_obd hN hf
  refine g_callV (rest := []) O dX12_drawsLine_18 (ct_X12_draws hZ h0 hq4) vx_RX12_248 h0 rfl rfl (by decide) (Nat.le_of_ble_eq_true rfl) (fun hp5 => ?_)
  change G Z C q4.2 21 [(2, .int q2.1), (0, .ref (za Z i0)), (1, .int p1)] [.int q4.1]
  refine g_istore_nP O dX12_drawsLine_21 rfl (by decide) [(3, .int q4.1), (2, .int q2.1), (0, .ref (za Z i0)), (1, .int p1)] rfl ?_
  refine g_aload_n O dX12_drawsLine_22 2 rfl rfl ?_
  refine g_iconst O dX12_drawsLine_23 (2 : Int32) (by decide) ?_
  obtain ⟨q6, hq6, hf⟩ := k_obd hN hf
  refine g_callV (rest := []) O dX12_drawsLine_24 (ct_X12_draws hZ h0 hq6) vx_RX12_248 h0 rfl rfl (by decide) (Nat.le_of_ble_eq_true rfl) (fun hp7 => ?_)
  change G Z C q6.2 27 [(3, .int q4.1), (2, .int q2.1), (0, .ref (za Z i0)), (1, .int p1)] [.int q6.1]
  refine g_istoreP O dX12_drawsLine_27 (by decide) [(4, .int q6.1), (3, .int q4.1), (2, .int q2.1), (0, .ref (za Z i0)), (1, .int p1)] rfl ?_
  refine g_iload O dX12_drawsLine_29 0 rfl ?_
  refine g_aload_n O dX12_drawsLine_31 3 rfl rfl ?_
  refine g_iconst O dX12_drawsLine_32 (2 : Int32) (by decide) ?_
  obtain ⟨q8, hq8, hf⟩ := k_obd hN hf
  refine g_callV (rest := [.int q6.1]) O dX12_drawsLine_33 (ct_X12_draws hZ h0 hq8) vx_RX12_248 h0 rfl rfl (by decide) (Nat.le_of_ble_eq_true rfl) (fun hp9 => ?_)
  change G Z C q8.2 36 [(4, .int q6.1), (3, .int q4.1), (2, .int q2.1), (0, .ref (za Z i0)), (1, .int p1)] [.int q8.1, .int q6.1]
  refine g_iconst O dX12_drawsLine_36 (1 : Int32) (by decide) ?_
  refine g_ishl O dX12_drawsLine_37 ?_
  refine g_ior O dX12_drawsLine_38 ?_
  refine g_istore O dX12_drawsLine_39 (by decide) (fun y => [(4, .int y), (3, .int q4.1), (2, .int q2.1), (0, .ref (za Z i0)), (1, .int p1)]) (fun _ => rfl) hf (fun x10 hf => ?_)
  refine g_iload O dX12_drawsLine_41 0 rfl ?_
  refine g_aload_n O dX12_drawsLine_43 3 rfl rfl ?_
  refine g_iconst O dX12_drawsLine_44 (2 : Int32) (by decide) ?_
  obtain ⟨q11, hq11, hf⟩ := k_obd hN hf
  refine g_callV (rest := [.int x10]) O dX12_drawsLine_45 (ct_X12_draws hZ h0 hq11) vx_RX12_248 h0 rfl rfl (by decide) (Nat.le_of_ble_eq_true rfl) (fun hp12 => ?_)
  change G Z C q11.2 48 [(4, .int x10), (3, .int q4.1), (2, .int q2.1), (0, .ref (za Z i0)), (1, .int p1)] [.int q11.1, .int x10]
  refine g_iconst O dX12_drawsLine_48 (2 : Int32) (by decide) ?_
  refine g_ishl O dX12_drawsLine_49 ?_
  refine g_ior O dX12_drawsLine_50 ?_
  refine g_istore O dX12_drawsLine_51 (by decide) (fun y => [(4, .int y), (3, .int q4.1), (2, .int q2.1), (0, .ref (za Z i0)), (1, .int p1)]) (fun _ => rfl) hf (fun x13 hf => ?_)
  refine g_iconst O dX12_drawsLine_53 (0 : Int32) (by decide) ?_
  refine g_istoreP O dX12_drawsLine_54 (by decide) [(5, .int (0 : Int32)), (4, .int x13), (3, .int q4.1), (2, .int q2.1), (0, .ref (za Z i0)), (1, .int p1)] rfl ?_
  refine g_sub [0, 1, 2, 3, 4] rfl ?_
  refine g_lp hN (fun (a14 : Int32 × Mem) => G Z C a14.2 56 [(5, .int a14.1), (4, .int x13), (3, .int q4.1), (2, .int q2.1), (0, .ref (za Z i0))] []) hf (fun a14 _ hN14 hI14 hX14 hf => ?_)
  unfold sX12_drawsLine_56 at hf
  refine g_iload O dX12_drawsLine_56 0 rfl ?_
  refine g_aload_n O dX12_drawsLine_58 4 rfl rfl ?_
  refine g_iload_n O dX12_drawsLine_59 3 rfl rfl ?_
  obtain ⟨q15, hq15, hf⟩ := k_obd hN14 hf
  refine g_callV (rest := [.int a14.1]) O dX12_drawsLine_60 (ct_X12_holes hZ h0 hq15) vx_RX12_154 h0 rfl rfl (by decide) (Nat.le_of_ble_eq_true rfl) (fun hp16 => ?_)
  change G Z C a14.2 63 [(5, .int a14.1), (4, .int x13), (3, .int q4.1), (2, .int q2.1), (0, .ref (za Z i0))] [.int q15, .int a14.1]
  refine g_icmp_ge 121 O dX12_drawsLine_63 (by decide) hf (fun c17 hf => ?_) (fun c17 hf => ?_)
  · have hf := hX14 _ hf
    refine g_aload_n O dX12_drawsLine_121 4 rfl rfl ?_
    refine g_iload_n O dX12_drawsLine_122 3 rfl rfl ?_
    refine g_iconst O dX12_drawsLine_123 (0 : Int32) (by decide) ?_
    refine g_aload_n O dX12_drawsLine_124 4 rfl rfl ?_
    refine g_getR O dX12_drawsLine_125 fx_RX12_40 h0 ?_
    refine g_iload O dX12_drawsLine_128 1 rfl ?_
    refine g_iload_n O dX12_drawsLine_130 2 rfl rfl ?_
    obtain ⟨q18, hq18, hf⟩ := k_obd hN hf
    refine g_callV (rest := []) O dX12_drawsLine_131 (ct_X12_says hZ h0 (kf_12_19 h0) hq18) vx_RX12_177 h0 rfl rfl (by decide) (Nat.le_of_ble_eq_true rfl) (fun hp19 => ?_)
    change G Z C q18 134 [(5, .int a14.1), (4, .int x13), (3, .int q4.1), (2, .int q2.1), (0, .ref (za Z i0))] []
    exact hR _ hf _ _ dX12_drawsLine_134
  · refine g_aload_n O dX12_drawsLine_66 4 rfl rfl ?_
    refine g_getR O dX12_drawsLine_67 fx_RX12_40 h0 ?_
    refine g_iload O dX12_drawsLine_70 0 rfl ?_
    refine g_aload_n O dX12_drawsLine_72 4 rfl rfl ?_
    refine g_iload_n O dX12_drawsLine_73 3 rfl rfl ?_
    refine g_iload O dX12_drawsLine_74 0 rfl ?_
    refine g_iconst O dX12_drawsLine_76 (0 : Int32) (by decide) ?_
    obtain ⟨q20, hq20, hf⟩ := k_obd hN14 hf
    refine g_callV (rest := [.int a14.1, .ref (za Z (i0 + 11))]) O dX12_drawsLine_77 (ct_X12_ofHole hZ h0 hq20) vx_RX12_115 h0 rfl rfl (by decide) (Nat.le_of_ble_eq_true rfl) (fun hp21 => ?_)
    change G Z C a14.2 80 [(5, .int a14.1), (4, .int x13), (3, .int q4.1), (2, .int q2.1), (0, .ref (za Z i0))] [.int q20, .int a14.1, .ref (za Z (i0 + 11))]
    refine g_bipush O dX12_drawsLine_80 (112 : Int32) (by decide) ?_
    refine g_jn (fun (y22 : Int32 × Mem) => G Z C y22.2 114 [(5, .int a14.1), (4, .int x13), (3, .int q4.1), (2, .int q2.1), (0, .ref (za Z i0))] [.int y22.1, .int a14.1, .ref (za Z (i0 + 11))]) hf (fun y22 hf => ?_) (fun k22 hk22 hf => ?_)
    · refine g_iast O hN14 dX12_drawsLine_114 (kf_12_19 h0) hf (fun m23 hf => ?_)
      refine g_iinc O dX12_drawsLine_115 0 rfl (by decide) (1) (by decide) (fun y => [(5, .int y), (4, .int x13), (3, .int q4.1), (2, .int q2.1), (0, .ref (za Z i0))]) (fun _ => rfl) hf (fun x24 hf => ?_)
      refine g_goto 56 O dX12_drawsLine_118 (by decide) ?_
      exact hI14 _ hf
    · skip
      refine g_icmp_ne 96 O dX12_drawsLine_82 (by decide) hf (fun c25 hf => ?_) (fun c25 hf => ?_)
      · refine g_aload_n O dX12_drawsLine_85 4 rfl rfl ?_
        refine g_iload_n O dX12_drawsLine_86 3 rfl rfl ?_
        refine g_iload O dX12_drawsLine_87 0 rfl ?_
        refine g_iconst O dX12_drawsLine_89 (3 : Int32) (by decide) ?_
        obtain ⟨q26, hq26, hf⟩ := k_obd hN14 hf
        refine g_callV (rest := [.int a14.1, .ref (za Z (i0 + 11))]) O dX12_drawsLine_90 (ct_X12_ofHole hZ h0 hq26) vx_RX12_115 h0 rfl rfl (by decide) (Nat.le_of_ble_eq_true rfl) (fun hp27 => ?_)
        change G Z C a14.2 93 [(5, .int a14.1), (4, .int x13), (3, .int q4.1), (2, .int q2.1), (0, .ref (za Z i0))] [.int q26, .int a14.1, .ref (za Z (i0 + 11))]
        refine g_goto 114 O dX12_drawsLine_93 (by decide) ?_
        exact hk22 _ hf
      · refine g_aload_n O dX12_drawsLine_96 4 rfl rfl ?_
        refine g_iload_n O dX12_drawsLine_97 3 rfl rfl ?_
        refine g_iload O dX12_drawsLine_98 0 rfl ?_
        refine g_aload_n O dX12_drawsLine_100 4 rfl rfl ?_
        refine g_aload_n O dX12_drawsLine_101 4 rfl rfl ?_
        refine g_iload_n O dX12_drawsLine_102 3 rfl rfl ?_
        refine g_iload O dX12_drawsLine_103 0 rfl ?_
        obtain ⟨q28, hq28, hf⟩ := k_obd hN14 hf
        refine g_callV (rest := [.ref (za Z i0), .int a14.1, .int q2.1, .ref (za Z i0), .int a14.1, .ref (za Z (i0 + 11))]) O dX12_drawsLine_105 (ct_X12_able hZ h0 hq28) vx_RX12_157 h0 rfl rfl (by decide) (Nat.le_of_ble_eq_true rfl) (fun hp29 => ?_)
        change G Z C a14.2 108 [(5, .int a14.1), (4, .int x13), (3, .int q4.1), (2, .int q2.1), (0, .ref (za Z i0))] [.int q28, .ref (za Z i0), .int a14.1, .int q2.1, .ref (za Z i0), .int a14.1, .ref (za Z (i0 + 11))]
        obtain ⟨q30, hq30, hf⟩ := k_obd hN14 hf
        refine g_callV (rest := [.int a14.1, .int q2.1, .ref (za Z i0), .int a14.1, .ref (za Z (i0 + 11))]) O dX12_drawsLine_108 (ct_X12_draws hZ h0 hq30) vx_RX12_248 h0 rfl rfl (by decide) (Nat.le_of_ble_eq_true rfl) (fun hp31 => ?_)
        change G Z C q30.2 111 [(5, .int a14.1), (4, .int x13), (3, .int q4.1), (2, .int q2.1), (0, .ref (za Z i0))] [.int q30.1, .int a14.1, .int q2.1, .ref (za Z i0), .int a14.1, .ref (za Z (i0 + 11))]
        obtain ⟨q32, hq32, hf⟩ := k_obd hN14 hf
        refine g_callV (rest := [.int a14.1, .ref (za Z (i0 + 11))]) O dX12_drawsLine_111 (ct_X12_ableAt hZ h0 hq32) vx_RX12_189 h0 rfl rfl (by decide) (Nat.le_of_ble_eq_true rfl) (fun hp33 => ?_)
        change G Z C q30.2 114 [(5, .int a14.1), (4, .int x13), (3, .int q4.1), (2, .int q2.1), (0, .ref (za Z i0))] [.int q32, .int a14.1, .ref (za Z (i0 + 11))]
        exact hk22 _ hf

set_option maxHeartbeats 4000000 in
set_option maxRecDepth 100000 in
theorem ct_X12_drawn {Z : ZT} (hZ : ZOk Z) {σ : Mem} {i0 : Nat} {p1 : Int32} {p2 : Int32} (h0 : kn i0 = 12) {r : (Int32 × Mem)} (hf : fX12_drawn σ i0 p1 p2 = some r) : Ct Z yX12_drawn cX12_drawn 3 (some .int) 9 228 [.ref (za Z i0), .int p1, .int p2] σ (some (.int r.1)) True r.2 := by
  refine ct_im hZ (by decide +kernel) (Nat.le_of_ble_eq_true rfl) hf (fun C K O hN hR hf => ?_)
  have O : Ok Z C RX12 cX12_drawn 3 9 228 := O
  change G Z C σ 0 [(0, .ref (za Z i0)), (1, .int p1), (2, .int p2)] []
  unfold fX12_drawn at hf
  refine g_iload_n O dX12_drawn_0 2 rfl rfl ?_
  refine g_iconst O dX12_drawn_1 (0 : Int32) (by decide) ?_
  refine g_iconst O dX12_drawn_2 (1 : Int32) (by decide) ?_
  obtain ⟨q1, hq1, hf⟩ := k_obd hN hf
  refine g_callS (rest := []) O dX12_drawn_3 (ct_X12_isIn hZ  hq1) sx_RX12_64 rfl rfl (by decide) (Nat.le_of_ble_eq_true rfl) (fun hp2 => ?_)
  change G Z C σ 6 [(0, .ref (za Z i0)), (1, .int p1), (2, .int p2)] [.int q1]
  refine g_if_ne 12 O dX12_drawn_6 (by decide) hf (fun c3 hf => ?_) (fun c3 hf => ?_)
  · refine g_bipush O dX12_drawn_9 (-2 : Int32) (by decide) ?_
    exact hR _ _ hf _ _ dX12_drawn_11
  · refine g_aload_n O dX12_drawn_12 0 rfl rfl ?_
    refine g_getR O dX12_drawn_13 fx_RX12_9 h0 ?_
    refine g_iconst O dX12_drawn_16 (1 : Int32) (by decide) ?_
    refine g_iald O hN dX12_drawn_17 (kf_12_0 h0) hf (fun hf => ?_)
    refine g_if_ne 24 O dX12_drawn_18 (by decide) hf (fun c4 hf => ?_) (fun c4 hf => ?_)
    · refine g_bipush O dX12_drawn_21 (-3 : Int32) (by decide) ?_
      exact hR _ _ hf _ _ dX12_drawn_23
    · refine g_aload_n O dX12_drawn_24 0 rfl rfl ?_
      refine g_iload_n O dX12_drawn_25 1 rfl rfl ?_
      obtain ⟨q5, hq5, hf⟩ := k_obd hN hf
      refine g_callV (rest := []) O dX12_drawn_26 (ct_X12_drawsLine hZ h0 hq5) vx_RX12_251 h0 rfl rfl (by decide) (Nat.le_of_ble_eq_true rfl) (fun hp6 => ?_)
      change G Z C q5 29 [(0, .ref (za Z i0)), (1, .int p1), (2, .int p2)] []
      refine g_iload_n O dX12_drawn_29 2 rfl rfl ?_
      refine g_iconst O dX12_drawn_30 (1 : Int32) (by decide) ?_
      refine g_icmp_ne 41 O dX12_drawn_31 (by decide) hf (fun c7 hf => ?_) (fun c7 hf => ?_)
      · refine g_aload_n O dX12_drawn_34 0 rfl rfl ?_
        refine g_getI O dX12_drawn_35 fx_RX12_166 h0 ?_
        refine g_goto 45 O dX12_drawn_38 (by decide) ?_
        exact hR _ _ hf _ _ dX12_drawn_45
      · refine g_aload_n O dX12_drawn_41 0 rfl rfl ?_
        obtain ⟨q8, hq8, hf⟩ := k_obd hN hf
        refine g_callV (rest := []) O dX12_drawn_42 (ct_X12_counted hZ h0 hq8) vx_RX12_241 h0 rfl rfl (by decide) (Nat.le_of_ble_eq_true rfl) (fun hp9 => ?_)
        change G Z C q8.2 45 [(0, .ref (za Z i0)), (1, .int p1), (2, .int p2)] [.int q8.1]
        exact hR _ _ hf _ _ dX12_drawn_45

set_option maxHeartbeats 4000000 in
set_option maxRecDepth 100000 in
theorem ct_X12_chance {Z : ZT} (hZ : ZOk Z) {σ : Mem} {i0 : Nat} {p1 : Int32} {p2 : Int32} {p3 : Int32} (h0 : kn i0 = 12) {r : (Int32 × Mem)} (hf : fX12_chance σ i0 p1 p2 p3 = some r) : Ct Z yX12_chance cX12_chance 6 (some .int) 9 228 [.ref (za Z i0), .int p1, .int p2, .int p3] σ (some (.int r.1)) True r.2 := by
  refine ct_im hZ (by decide +kernel) (Nat.le_of_ble_eq_true rfl) hf (fun C K O hN hR hf => ?_)
  have O : Ok Z C RX12 cX12_chance 6 9 228 := O
  change G Z C σ 0 [(0, .ref (za Z i0)), (1, .int p1), (2, .int p2), (3, .int p3)] []
  unfold fX12_chance at hf
  refine g_iload_n O dX12_chance_0 2 rfl rfl ?_
  refine g_iconst O dX12_chance_1 (1 : Int32) (by decide) ?_
  refine g_bipush O dX12_chance_2 (8 : Int32) (by decide) ?_
  obtain ⟨q1, hq1, hf⟩ := k_obd hN hf
  refine g_callS (rest := []) O dX12_chance_4 (ct_X12_isIn hZ  hq1) sx_RX12_64 rfl rfl (by decide) (Nat.le_of_ble_eq_true rfl) (fun hp2 => ?_)
  change G Z C σ 7 [(0, .ref (za Z i0)), (1, .int p1), (2, .int p2), (3, .int p3)] [.int q1]
  refine g_if_eq 19 O dX12_chance_7 (by decide) hf (fun c3 hf => ?_) (fun c3 hf => ?_)
  · refine g_bipush O dX12_chance_19 (-2 : Int32) (by decide) ?_
    exact hR _ _ hf _ _ dX12_chance_21
  · refine g_iload_n O dX12_chance_10 3 rfl rfl ?_
    refine g_iconst O dX12_chance_11 (0 : Int32) (by decide) ?_
    refine g_iconst O dX12_chance_12 (1 : Int32) (by decide) ?_
    obtain ⟨q4, hq4, hf⟩ := k_obd hN hf
    refine g_callS (rest := []) O dX12_chance_13 (ct_X12_isIn hZ  hq4) sx_RX12_64 rfl rfl (by decide) (Nat.le_of_ble_eq_true rfl) (fun hp5 => ?_)
    change G Z C σ 16 [(0, .ref (za Z i0)), (1, .int p1), (2, .int p2), (3, .int p3)] [.int q4]
    refine g_if_ne 22 O dX12_chance_16 (by decide) hf (fun c6 hf => ?_) (fun c6 hf => ?_)
    · refine g_bipush O dX12_chance_19 (-2 : Int32) (by decide) ?_
      exact hR _ _ hf _ _ dX12_chance_21
    · refine g_aload_n O dX12_chance_22 0 rfl rfl ?_
      refine g_getR O dX12_chance_23 fx_RX12_9 h0 ?_
      refine g_iconst O dX12_chance_26 (1 : Int32) (by decide) ?_
      refine g_iald O hN dX12_chance_27 (kf_12_0 h0) hf (fun hf => ?_)
      refine g_if_ne 34 O dX12_chance_28 (by decide) hf (fun c7 hf => ?_) (fun c7 hf => ?_)
      · refine g_bipush O dX12_chance_31 (-3 : Int32) (by decide) ?_
        exact hR _ _ hf _ _ dX12_chance_33
      · refine g_iconst O dX12_chance_34 (0 : Int32) (by decide) ?_
        refine g_istoreP O dX12_chance_35 (by decide) [(4, .int (0 : Int32)), (0, .ref (za Z i0)), (1, .int p1), (2, .int p2), (3, .int p3)] rfl ?_
        refine g_iconst O dX12_chance_37 (0 : Int32) (by decide) ?_
        refine g_istoreP O dX12_chance_38 (by decide) [(5, .int (0 : Int32)), (4, .int (0 : Int32)), (0, .ref (za Z i0)), (1, .int p1), (2, .int p2), (3, .int p3)] rfl ?_
        refine g_lp hN (fun (a8 : Int32 × Int32 × Mem) => G Z C a8.2.2 40 [(5, .int a8.1), (4, .int a8.2.1), (0, .ref (za Z i0)), (1, .int p1), (2, .int p2), (3, .int p3)] []) hf (fun a8 _ hN8 hI8 hX8 hf => ?_)
        unfold sX12_chance_40 at hf
        refine g_iload O dX12_chance_40 0 rfl ?_
        refine g_iload_n O dX12_chance_42 4 rfl rfl ?_
        refine g_icmp_ge 78 O dX12_chance_43 (by decide) hf (fun c9 hf => ?_) (fun c9 hf => ?_)
        · have hf := hX8 _ hf
          refine g_iload_n O dX12_chance_78 4 rfl rfl ?_
          refine g_istoreP O dX12_chance_79 (by decide) [(5, .int p2), (4, .int a8.2.1), (0, .ref (za Z i0)), (1, .int p1), (2, .int p2), (3, .int p3)] rfl ?_
          refine g_sub [0, 1, 4, 5] rfl ?_
          refine g_lp hN (fun (a10 : Int32) => G Z C a8.2.2 81 [(5, .int a10), (4, .int a8.2.1), (2, .int p2), (3, .int p3)] []) hf (fun a10 _ hN10 hI10 hX10 hf => ?_)
          unfold sX12_chance_81 at hf
          refine g_iload O dX12_chance_81 1 rfl ?_
          refine g_iload O dX12_chance_83 0 rfl ?_
          refine g_irem O hN10 dX12_chance_85 hf (fun hf => ?_)
          refine g_if_ne 96 O dX12_chance_86 (by decide) hf (fun c11 hf => ?_) (fun c11 hf => ?_)
          · refine g_iload_n O dX12_chance_89 2 rfl rfl ?_
            refine g_iload O dX12_chance_90 0 rfl ?_
            refine g_irem O hN10 dX12_chance_92 hf (fun hf => ?_)
            refine g_if_eq 102 O dX12_chance_93 (by decide) hf (fun c12 hf => ?_) (fun c12 hf => ?_)
            · have hf := hX10 _ hf
              refine g_iload_n O dX12_chance_102 3 rfl rfl ?_
              refine g_if_ne 114 O dX12_chance_103 (by decide) hf (fun c13 hf => ?_) (fun c13 hf => ?_)
              · refine g_iload O dX12_chance_106 1 rfl ?_
                refine g_iload O dX12_chance_108 0 rfl ?_
                refine g_idiv O hN dX12_chance_110 hf (fun hf => ?_)
                refine g_goto 118 O dX12_chance_111 (by decide) ?_
                exact hR _ _ hf _ _ dX12_chance_118
              · refine g_iload_n O dX12_chance_114 2 rfl rfl ?_
                refine g_iload O dX12_chance_115 0 rfl ?_
                refine g_idiv O hN dX12_chance_117 hf (fun hf => ?_)
                exact hR _ _ hf _ _ dX12_chance_118
            · refine g_iinc O dX12_chance_96 0 rfl (by decide) (-1) (by decide) (fun y => [(5, .int y), (4, .int a8.2.1), (2, .int p2), (3, .int p3)]) (fun _ => rfl) hf (fun x14 hf => ?_)
              refine g_goto 81 O dX12_chance_99 (by decide) ?_
              exact hI10 _ hf
          · refine g_iinc O dX12_chance_96 0 rfl (by decide) (-1) (by decide) (fun y => [(5, .int y), (4, .int a8.2.1), (2, .int p2), (3, .int p3)]) (fun _ => rfl) hf (fun x15 hf => ?_)
            refine g_goto 81 O dX12_chance_99 (by decide) ?_
            exact hI10 _ hf
        · refine g_aload_n O dX12_chance_46 2 rfl rfl ?_
          refine g_iload_n O dX12_chance_47 3 rfl rfl ?_
          refine g_iload O dX12_chance_48 0 rfl ?_
          refine g_iadd O dX12_chance_50 ?_
          obtain ⟨q16, hq16, hf⟩ := k_obd hN8 hf
          refine g_callV (rest := []) O dX12_chance_51 (ct_X12_drawsLine hZ h0 hq16) vx_RX12_251 h0 rfl rfl (by decide) (Nat.le_of_ble_eq_true rfl) (fun hp17 => ?_)
          change G Z C q16 54 [(5, .int a8.1), (4, .int a8.2.1), (0, .ref (za Z i0)), (1, .int p1), (2, .int p2), (3, .int p3)] []
          refine g_iload O dX12_chance_54 1 rfl ?_
          refine g_aload_n O dX12_chance_56 2 rfl rfl ?_
          obtain ⟨q18, hq18, hf⟩ := k_obd hN8 hf
          refine g_callV (rest := [.int a8.2.1]) O dX12_chance_57 (ct_X12_counted hZ h0 hq18) vx_RX12_241 h0 rfl rfl (by decide) (Nat.le_of_ble_eq_true rfl) (fun hp19 => ?_)
          change G Z C q18.2 60 [(5, .int a8.1), (4, .int a8.2.1), (0, .ref (za Z i0)), (1, .int p1), (2, .int p2), (3, .int p3)] [.int q18.1, .int a8.2.1]
          refine g_iconst O dX12_chance_60 (1 : Int32) (by decide) ?_
          refine g_icmp_ne 68 O dX12_chance_61 (by decide) hf (fun c20 hf => ?_) (fun c20 hf => ?_)
          · refine g_iconst O dX12_chance_64 (1 : Int32) (by decide) ?_
            refine g_goto 69 O dX12_chance_65 (by decide) ?_
            refine g_iadd O dX12_chance_69 ?_
            refine g_istore O dX12_chance_70 (by decide) (fun y => [(4, .int y), (5, .int a8.1), (0, .ref (za Z i0)), (1, .int p1), (2, .int p2), (3, .int p3)]) (fun _ => rfl) hf (fun x21 hf => ?_)
            refine g_iinc O dX12_chance_72 1 rfl (by decide) (1) (by decide) (fun y => [(5, .int y), (4, .int x21), (0, .ref (za Z i0)), (1, .int p1), (2, .int p2), (3, .int p3)]) (fun _ => rfl) hf (fun x22 hf => ?_)
            refine g_goto 40 O dX12_chance_75 (by decide) ?_
            exact hI8 _ hf
          · refine g_iconst O dX12_chance_68 (0 : Int32) (by decide) ?_
            refine g_iadd O dX12_chance_69 ?_
            refine g_istore O dX12_chance_70 (by decide) (fun y => [(4, .int y), (5, .int a8.1), (0, .ref (za Z i0)), (1, .int p1), (2, .int p2), (3, .int p3)]) (fun _ => rfl) hf (fun x23 hf => ?_)
            refine g_iinc O dX12_chance_72 1 rfl (by decide) (1) (by decide) (fun y => [(5, .int y), (4, .int x23), (0, .ref (za Z i0)), (1, .int p1), (2, .int p2), (3, .int p3)]) (fun _ => rfl) hf (fun x24 hf => ?_)
            refine g_goto 40 O dX12_chance_75 (by decide) ?_
            exact hI8 _ hf

set_option maxHeartbeats 4000000 in
set_option maxRecDepth 100000 in
theorem ct_X12_tray {Z : ZT} (hZ : ZOk Z) {σ : Mem} {i0 : Nat} {p1 : Int32} {p2 : Int32} {p3 : Int32} (h0 : kn i0 = 12) {r : (Int32 × Mem)} (hf : fX12_tray σ i0 p1 p2 p3 = some r) : Ct Z yX12_tray cX12_tray 5 (some .int) 1 22 [.ref (za Z i0), .int p1, .int p2, .int p3] σ (some (.int r.1)) True r.2 := by
  refine ct_im hZ (by decide +kernel) (Nat.le_of_ble_eq_true rfl) hf (fun C K O hN hR hf => ?_)
  have O : Ok Z C RX12 cX12_tray 5 1 22 := O
  change G Z C σ 0 [(0, .ref (za Z i0)), (1, .int p1), (2, .int p2), (3, .int p3)] []
  unfold fX12_tray at hf
  refine g_iload_n O dX12_tray_0 1 rfl rfl ?_
  refine g_iconst O dX12_tray_1 (0 : Int32) (by decide) ?_
  refine g_iconst O dX12_tray_2 (3 : Int32) (by decide) ?_
  obtain ⟨q1, hq1, hf⟩ := k_obd hN hf
  refine g_callS (rest := []) O dX12_tray_3 (ct_X12_isIn hZ  hq1) sx_RX12_64 rfl rfl (by decide) (Nat.le_of_ble_eq_true rfl) (fun hp2 => ?_)
  change G Z C σ 6 [(0, .ref (za Z i0)), (1, .int p1), (2, .int p2), (3, .int p3)] [.int q1]
  refine g_if_eq 24 O dX12_tray_6 (by decide) hf (fun c3 hf => ?_) (fun c3 hf => ?_)
  · refine g_bipush O dX12_tray_24 (-2 : Int32) (by decide) ?_
    exact hR _ _ hf _ _ dX12_tray_26
  · refine g_iload_n O dX12_tray_9 2 rfl rfl ?_
    refine g_iconst O dX12_tray_10 (0 : Int32) (by decide) ?_
    refine g_iconst O dX12_tray_11 (5 : Int32) (by decide) ?_
    obtain ⟨q4, hq4, hf⟩ := k_obd hN hf
    refine g_callS (rest := []) O dX12_tray_12 (ct_X12_isIn hZ  hq4) sx_RX12_64 rfl rfl (by decide) (Nat.le_of_ble_eq_true rfl) (fun hp5 => ?_)
    change G Z C σ 15 [(0, .ref (za Z i0)), (1, .int p1), (2, .int p2), (3, .int p3)] [.int q4]
    refine g_if_eq 24 O dX12_tray_15 (by decide) hf (fun c6 hf => ?_) (fun c6 hf => ?_)
    · refine g_bipush O dX12_tray_24 (-2 : Int32) (by decide) ?_
      exact hR _ _ hf _ _ dX12_tray_26
    · refine g_iload_n O dX12_tray_18 3 rfl rfl ?_
      refine g_bipush O dX12_tray_19 (20 : Int32) (by decide) ?_
      refine g_icmp_le 27 O dX12_tray_21 (by decide) hf (fun c7 hf => ?_) (fun c7 hf => ?_)
      · refine g_iload_n O dX12_tray_27 3 rfl rfl ?_
        refine g_if_ge 34 O dX12_tray_28 (by decide) hf (fun c8 hf => ?_) (fun c8 hf => ?_)
        · refine g_aload_n O dX12_tray_34 0 rfl rfl ?_
          refine g_getR O dX12_tray_35 fx_RX12_43 h0 ?_
          refine g_iload_n O dX12_tray_38 1 rfl rfl ?_
          refine g_iload_n O dX12_tray_39 2 rfl rfl ?_
          refine g_iast O hN dX12_tray_40 (kf_12_21 h0) hf (fun m9 hf => ?_)
          refine g_aload_n O dX12_tray_41 0 rfl rfl ?_
          refine g_getR O dX12_tray_42 fx_RX12_46 h0 ?_
          refine g_iload_n O dX12_tray_45 1 rfl rfl ?_
          refine g_iload_n O dX12_tray_46 3 rfl rfl ?_
          refine g_iast O hN dX12_tray_47 (kf_12_22 h0) hf (fun m10 hf => ?_)
          refine g_iconst O dX12_tray_48 (0 : Int32) (by decide) ?_
          refine g_istoreP O dX12_tray_49 (by decide) [(4, .int (0 : Int32)), (0, .ref (za Z i0)), (1, .int p1), (2, .int p2), (3, .int p3)] rfl ?_
          refine g_sub [0, 1, 2, 4] rfl ?_
          refine g_lp hN (fun (a11 : Int32 × Mem) => G Z C a11.2 51 [(4, .int a11.1), (0, .ref (za Z i0)), (1, .int p1), (3, .int p3)] []) hf (fun a11 _ hN11 hI11 hX11 hf => ?_)
          unfold sX12_tray_51 at hf
          refine g_iload O dX12_tray_51 0 rfl ?_
          refine g_iload_n O dX12_tray_53 3 rfl rfl ?_
          refine g_icmp_ge 76 O dX12_tray_54 (by decide) hf (fun c12 hf => ?_) (fun c12 hf => ?_)
          · have hf := hX11 _ hf
            refine g_iconst O dX12_tray_76 (1 : Int32) (by decide) ?_
            exact hR _ _ hf _ _ dX12_tray_77
          · refine g_aload_n O dX12_tray_57 1 rfl rfl ?_
            refine g_getR O dX12_tray_58 fx_RX12_49 h0 ?_
            refine g_bipush O dX12_tray_61 (20 : Int32) (by decide) ?_
            refine g_iload_n O dX12_tray_63 2 rfl rfl ?_
            refine g_imul O dX12_tray_64 ?_
            refine g_iload O dX12_tray_65 0 rfl ?_
            refine g_iadd O dX12_tray_67 ?_
            refine g_iconst O dX12_tray_68 (-1 : Int32) (by decide) ?_
            refine g_iast O hN11 dX12_tray_69 (kf_12_23 h0) hf (fun m13 hf => ?_)
            refine g_iinc O dX12_tray_70 0 rfl (by decide) (1) (by decide) (fun y => [(4, .int y), (0, .ref (za Z i0)), (1, .int p1), (3, .int p3)]) (fun _ => rfl) hf (fun x14 hf => ?_)
            refine g_goto 51 O dX12_tray_73 (by decide) ?_
            exact hI11 _ hf
        · refine g_bipush O dX12_tray_31 (-14 : Int32) (by decide) ?_
          exact hR _ _ hf _ _ dX12_tray_33
      · refine g_bipush O dX12_tray_24 (-2 : Int32) (by decide) ?_
        exact hR _ _ hf _ _ dX12_tray_26

set_option maxHeartbeats 4000000 in
set_option maxRecDepth 100000 in
theorem ct_X12_wrongPlace {Z : ZT} (hZ : ZOk Z) {σ : Mem} {i0 : Nat} {p1 : Int32} {p2 : Int32} (h0 : kn i0 = 12) {r : Int32} (hf : fX12_wrongPlace σ i0 p1 p2 = some r) : Ct Z yX12_wrongPlace cX12_wrongPlace 3 (some .int) 1 22 [.ref (za Z i0), .int p1, .int p2] σ (some (.int r)) True σ := by
  refine ct_i hZ (by decide +kernel) (Nat.le_of_ble_eq_true rfl) hf (fun C K O hN hR hf => ?_)
  have O : Ok Z C RX12 cX12_wrongPlace 3 1 22 := O
  change G Z C σ 0 [(0, .ref (za Z i0)), (1, .int p1), (2, .int p2)] []
  unfold fX12_wrongPlace at hf
  refine g_aload_n O dX12_wrongPlace_0 0 rfl rfl ?_
  refine g_getR O dX12_wrongPlace_1 fx_RX12_43 h0 ?_
  refine g_iload_n O dX12_wrongPlace_4 1 rfl rfl ?_
  refine g_iald O hN dX12_wrongPlace_5 (kf_12_21 h0) hf (fun hf => ?_)
  refine g_if_ge 14 O dX12_wrongPlace_6 (by decide) hf (fun c1 hf => ?_) (fun c1 hf => ?_)
  · refine g_iload_n O dX12_wrongPlace_14 2 rfl rfl ?_
    refine g_iconst O dX12_wrongPlace_15 (0 : Int32) (by decide) ?_
    refine g_aload_n O dX12_wrongPlace_16 0 rfl rfl ?_
    refine g_getR O dX12_wrongPlace_17 fx_RX12_46 h0 ?_
    refine g_iload_n O dX12_wrongPlace_20 1 rfl rfl ?_
    refine g_iald O hN dX12_wrongPlace_21 (kf_12_22 h0) hf (fun hf => ?_)
    refine g_iconst O dX12_wrongPlace_22 (1 : Int32) (by decide) ?_
    refine g_isub O dX12_wrongPlace_23 ?_
    obtain ⟨q2, hq2, hf⟩ := k_obd hN hf
    refine g_callS (rest := []) O dX12_wrongPlace_24 (ct_X12_isIn hZ  hq2) sx_RX12_64 rfl rfl (by decide) (Nat.le_of_ble_eq_true rfl) (fun hp3 => ?_)
    change G Z C σ 27 [(0, .ref (za Z i0)), (1, .int p1), (2, .int p2)] [.int q2]
    refine g_if_eq 34 O dX12_wrongPlace_27 (by decide) hf (fun c4 hf => ?_) (fun c4 hf => ?_)
    · refine g_bipush O dX12_wrongPlace_34 (-12 : Int32) (by decide) ?_
      exact hR _ hf _ _ dX12_wrongPlace_36
    · refine g_iconst O dX12_wrongPlace_30 (0 : Int32) (by decide) ?_
      refine g_goto 36 O dX12_wrongPlace_31 (by decide) ?_
      exact hR _ hf _ _ dX12_wrongPlace_36
  · refine g_bipush O dX12_wrongPlace_9 (-11 : Int32) (by decide) ?_
    refine g_goto 36 O dX12_wrongPlace_11 (by decide) ?_
    exact hR _ hf _ _ dX12_wrongPlace_36

set_option maxHeartbeats 4000000 in
set_option maxRecDepth 100000 in
theorem ct_X12_lays {Z : ZT} (hZ : ZOk Z) {σ : Mem} {i0 : Nat} {p1 : Int32} {p2 : Int32} {p3 : Int32} (h0 : kn i0 = 12) {r : (Int32 × Mem)} (hf : fX12_lays σ i0 p1 p2 p3 = some r) : Ct Z yX12_lays cX12_lays 5 (some .int) 2 44 [.ref (za Z i0), .int p1, .int p2, .int p3] σ (some (.int r.1)) True r.2 := by
  refine ct_im hZ (by decide +kernel) (Nat.le_of_ble_eq_true rfl) hf (fun C K O hN hR hf => ?_)
  have O : Ok Z C RX12 cX12_lays 5 2 44 := O
  change G Z C σ 0 [(0, .ref (za Z i0)), (1, .int p1), (2, .int p2), (3, .int p3)] []
  unfold fX12_lays at hf
  refine g_iload_n O dX12_lays_0 1 rfl rfl ?_
  refine g_iconst O dX12_lays_1 (0 : Int32) (by decide) ?_
  refine g_iconst O dX12_lays_2 (3 : Int32) (by decide) ?_
  obtain ⟨q1, hq1, hf⟩ := k_obd hN hf
  refine g_callS (rest := []) O dX12_lays_3 (ct_X12_isIn hZ  hq1) sx_RX12_64 rfl rfl (by decide) (Nat.le_of_ble_eq_true rfl) (fun hp2 => ?_)
  change G Z C σ 6 [(0, .ref (za Z i0)), (1, .int p1), (2, .int p2), (3, .int p3)] [.int q1]
  refine g_if_eq 22 O dX12_lays_6 (by decide) hf (fun c3 hf => ?_) (fun c3 hf => ?_)
  · refine g_bipush O dX12_lays_22 (-2 : Int32) (by decide) ?_
    exact hR _ _ hf _ _ dX12_lays_24
  · refine g_iload_n O dX12_lays_9 3 rfl rfl ?_
    refine g_iconst O dX12_lays_10 (-1 : Int32) (by decide) ?_
    refine g_jn (fun (y4 : Unit) => G Z C σ 25 [(0, .ref (za Z i0)), (1, .int p1), (2, .int p2), (3, .int p3)] []) hf (fun y4 hf => ?_) (fun k4 hk4 hf => ?_)
    · refine g_aload_n O dX12_lays_25 0 rfl rfl ?_
      refine g_iload_n O dX12_lays_26 1 rfl rfl ?_
      refine g_iload_n O dX12_lays_27 2 rfl rfl ?_
      obtain ⟨q5, hq5, hf⟩ := k_obd hN hf
      refine g_callV (rest := []) O dX12_lays_28 (ct_X12_wrongPlace hZ h0 hq5) vx_RX12_254 h0 rfl rfl (by decide) (Nat.le_of_ble_eq_true rfl) (fun hp6 => ?_)
      change G Z C σ 31 [(0, .ref (za Z i0)), (1, .int p1), (2, .int p2), (3, .int p3)] [.int q5]
      refine g_istoreP O dX12_lays_31 (by decide) [(4, .int q5), (0, .ref (za Z i0)), (1, .int p1), (2, .int p2), (3, .int p3)] rfl ?_
      refine g_iload O dX12_lays_33 0 rfl ?_
      refine g_if_eq 41 O dX12_lays_35 (by decide) hf (fun c7 hf => ?_) (fun c7 hf => ?_)
      · refine g_iload_n O dX12_lays_41 4 rfl rfl ?_
        refine g_iconst O dX12_lays_42 (-1 : Int32) (by decide) ?_
        refine g_jn (fun (y8 : Unit) => G Z C σ 66 [(0, .ref (za Z i0)), (1, .int p1), (2, .int p2), (3, .int p3)] []) hf (fun y8 hf => ?_) (fun k8 hk8 hf => ?_)
        · refine g_aload_n O dX12_lays_66 0 rfl rfl ?_
          refine g_getR O dX12_lays_67 fx_RX12_49 h0 ?_
          refine g_bipush O dX12_lays_70 (20 : Int32) (by decide) ?_
          refine g_iload_n O dX12_lays_72 1 rfl rfl ?_
          refine g_imul O dX12_lays_73 ?_
          refine g_iload_n O dX12_lays_74 2 rfl rfl ?_
          refine g_iadd O dX12_lays_75 ?_
          refine g_iload_n O dX12_lays_76 3 rfl rfl ?_
          refine g_iast O hN dX12_lays_77 (kf_12_23 h0) hf (fun m9 hf => ?_)
          refine g_iconst O dX12_lays_78 (1 : Int32) (by decide) ?_
          exact hR _ _ hf _ _ dX12_lays_79
        · skip
          refine g_icmp_eq 66 O dX12_lays_43 (by decide) hf (fun c10 hf => ?_) (fun c10 hf => ?_)
          · refine g_sub [1, 2, 3, 4] rfl ?_
            exact hk8 _ hf
          · refine g_aload_n O dX12_lays_46 1 rfl rfl ?_
            refine g_iload_n O dX12_lays_47 4 rfl rfl ?_
            obtain ⟨q11, hq11, hf⟩ := k_obd hN hf
            refine g_callV (rest := []) O dX12_lays_48 (ct_X12_kind hZ h0 hq11) vx_RX12_101 h0 rfl rfl (by decide) (Nat.le_of_ble_eq_true rfl) (fun hp12 => ?_)
            change G Z C σ 51 [(4, .int q5), (0, .ref (za Z i0)), (1, .int p1), (2, .int p2), (3, .int p3)] [.int q11]
            refine g_aload_n O dX12_lays_51 1 rfl rfl ?_
            refine g_getR O dX12_lays_52 fx_RX12_43 h0 ?_
            refine g_iload_n O dX12_lays_55 2 rfl rfl ?_
            refine g_iald O hN dX12_lays_56 (kf_12_21 h0) hf (fun hf => ?_)
            obtain ⟨q13, hq13, hf⟩ := k_obd hN hf
            refine g_callS (rest := []) O dX12_lays_57 (ct_X12_isUnder hZ  hq13) sx_RX12_104 rfl rfl (by decide) (Nat.le_of_ble_eq_true rfl) (fun hp14 => ?_)
            change G Z C σ 60 [(4, .int q5), (0, .ref (za Z i0)), (1, .int p1), (2, .int p2), (3, .int p3)] [.int q13]
            refine g_if_ne 66 O dX12_lays_60 (by decide) hf (fun c15 hf => ?_) (fun c15 hf => ?_)
            · refine g_bipush O dX12_lays_63 (-16 : Int32) (by decide) ?_
              exact hR _ _ hf _ _ dX12_lays_65
            · refine g_sub [1, 2, 3, 4] rfl ?_
              exact hk8 _ hf
      · refine g_iload O dX12_lays_38 0 rfl ?_
        exact hR _ _ hf _ _ dX12_lays_40
    · skip
      refine g_icmp_eq 25 O dX12_lays_11 (by decide) hf (fun c16 hf => ?_) (fun c16 hf => ?_)
      · exact hk4 _ hf
      · refine g_aload_n O dX12_lays_14 0 rfl rfl ?_
        refine g_iload_n O dX12_lays_15 3 rfl rfl ?_
        obtain ⟨q17, hq17, hf⟩ := k_obd hN hf
        refine g_callV (rest := []) O dX12_lays_16 (ct_X12_isWord hZ h0 hq17) vx_RX12_98 h0 rfl rfl (by decide) (Nat.le_of_ble_eq_true rfl) (fun hp18 => ?_)
        change G Z C σ 19 [(0, .ref (za Z i0)), (1, .int p1), (2, .int p2), (3, .int p3)] [.int q17]
        refine g_if_ne 25 O dX12_lays_19 (by decide) hf (fun c19 hf => ?_) (fun c19 hf => ?_)
        · refine g_bipush O dX12_lays_22 (-2 : Int32) (by decide) ?_
          exact hR _ _ hf _ _ dX12_lays_24
        · exact hk4 _ hf

set_option maxHeartbeats 4000000 in
set_option maxRecDepth 100000 in
theorem ct_X12_laid {Z : ZT} (hZ : ZOk Z) {σ : Mem} {i0 : Nat} {p1 : Int32} {p2 : Int32} (h0 : kn i0 = 12) {r : Int32} (hf : fX12_laid σ i0 p1 p2 = some r) : Ct Z yX12_laid cX12_laid 4 (some .int) 2 44 [.ref (za Z i0), .int p1, .int p2] σ (some (.int r)) True σ := by
  refine ct_i hZ (by decide +kernel) (Nat.le_of_ble_eq_true rfl) hf (fun C K O hN hR hf => ?_)
  have O : Ok Z C RX12 cX12_laid 4 2 44 := O
  change G Z C σ 0 [(0, .ref (za Z i0)), (1, .int p1), (2, .int p2)] []
  unfold fX12_laid at hf
  refine g_iload_n O dX12_laid_0 1 rfl rfl ?_
  refine g_iconst O dX12_laid_1 (0 : Int32) (by decide) ?_
  refine g_iconst O dX12_laid_2 (3 : Int32) (by decide) ?_
  obtain ⟨q1, hq1, hf⟩ := k_obd hN hf
  refine g_callS (rest := []) O dX12_laid_3 (ct_X12_isIn hZ  hq1) sx_RX12_64 rfl rfl (by decide) (Nat.le_of_ble_eq_true rfl) (fun hp2 => ?_)
  change G Z C σ 6 [(0, .ref (za Z i0)), (1, .int p1), (2, .int p2)] [.int q1]
  refine g_if_ne 12 O dX12_laid_6 (by decide) hf (fun c3 hf => ?_) (fun c3 hf => ?_)
  · refine g_bipush O dX12_laid_9 (-2 : Int32) (by decide) ?_
    exact hR _ hf _ _ dX12_laid_11
  · refine g_aload_n O dX12_laid_12 0 rfl rfl ?_
    refine g_iload_n O dX12_laid_13 1 rfl rfl ?_
    refine g_iload_n O dX12_laid_14 2 rfl rfl ?_
    obtain ⟨q4, hq4, hf⟩ := k_obd hN hf
    refine g_callV (rest := []) O dX12_laid_15 (ct_X12_wrongPlace hZ h0 hq4) vx_RX12_254 h0 rfl rfl (by decide) (Nat.le_of_ble_eq_true rfl) (fun hp5 => ?_)
    change G Z C σ 18 [(0, .ref (za Z i0)), (1, .int p1), (2, .int p2)] [.int q4]
    refine g_istore_nP O dX12_laid_18 rfl (by decide) [(3, .int q4), (0, .ref (za Z i0)), (1, .int p1), (2, .int p2)] rfl ?_
    refine g_iload_n O dX12_laid_19 0 rfl rfl ?_
    refine g_if_eq 27 O dX12_laid_20 (by decide) hf (fun c6 hf => ?_) (fun c6 hf => ?_)
    · refine g_aload_n O dX12_laid_27 1 rfl rfl ?_
      refine g_getR O dX12_laid_28 fx_RX12_49 h0 ?_
      refine g_bipush O dX12_laid_31 (20 : Int32) (by decide) ?_
      refine g_iload_n O dX12_laid_33 2 rfl rfl ?_
      refine g_imul O dX12_laid_34 ?_
      refine g_iload_n O dX12_laid_35 3 rfl rfl ?_
      refine g_iadd O dX12_laid_36 ?_
      refine g_iald O hN dX12_laid_37 (kf_12_23 h0) hf (fun hf => ?_)
      exact hR _ hf _ _ dX12_laid_38
    · refine g_iload_n O dX12_laid_23 0 rfl rfl ?_
      refine g_goto 38 O dX12_laid_24 (by decide) ?_
      exact hR _ hf _ _ dX12_laid_38

set_option maxHeartbeats 4000000 in
set_option maxRecDepth 100000 in
theorem ct_X12_like {Z : ZT} (hZ : ZOk Z) {σ : Mem} {i0 : Nat} {p1 : Int32} {p2 : Int32} (h0 : kn i0 = 12) {r : (Int32 × Mem)} (hf : fX12_like σ i0 p1 p2 = some r) : Ct Z yX12_like cX12_like 4 (some .int) 1 22 [.ref (za Z i0), .int p1, .int p2] σ (some (.int r.1)) True r.2 := by
  refine ct_im hZ (by decide +kernel) (Nat.le_of_ble_eq_true rfl) hf (fun C K O hN hR hf => ?_)
  have O : Ok Z C RX12 cX12_like 4 1 22 := O
  change G Z C σ 0 [(0, .ref (za Z i0)), (1, .int p1), (2, .int p2)] []
  unfold fX12_like at hf
  refine g_iload_n O dX12_like_0 1 rfl rfl ?_
  refine g_iconst O dX12_like_1 (0 : Int32) (by decide) ?_
  refine g_iconst O dX12_like_2 (3 : Int32) (by decide) ?_
  obtain ⟨q1, hq1, hf⟩ := k_obd hN hf
  refine g_callS (rest := []) O dX12_like_3 (ct_X12_isIn hZ  hq1) sx_RX12_64 rfl rfl (by decide) (Nat.le_of_ble_eq_true rfl) (fun hp2 => ?_)
  change G Z C σ 6 [(0, .ref (za Z i0)), (1, .int p1), (2, .int p2)] [.int q1]
  refine g_if_eq 18 O dX12_like_6 (by decide) hf (fun c3 hf => ?_) (fun c3 hf => ?_)
  · refine g_bipush O dX12_like_18 (-2 : Int32) (by decide) ?_
    exact hR _ _ hf _ _ dX12_like_20
  · refine g_iload_n O dX12_like_9 2 rfl rfl ?_
    refine g_iconst O dX12_like_10 (0 : Int32) (by decide) ?_
    refine g_iconst O dX12_like_11 (3 : Int32) (by decide) ?_
    obtain ⟨q4, hq4, hf⟩ := k_obd hN hf
    refine g_callS (rest := []) O dX12_like_12 (ct_X12_isIn hZ  hq4) sx_RX12_64 rfl rfl (by decide) (Nat.le_of_ble_eq_true rfl) (fun hp5 => ?_)
    change G Z C σ 15 [(0, .ref (za Z i0)), (1, .int p1), (2, .int p2)] [.int q4]
    refine g_if_ne 21 O dX12_like_15 (by decide) hf (fun c6 hf => ?_) (fun c6 hf => ?_)
    · refine g_bipush O dX12_like_18 (-2 : Int32) (by decide) ?_
      exact hR _ _ hf _ _ dX12_like_20
    · refine g_aload_n O dX12_like_21 0 rfl rfl ?_
      refine g_getR O dX12_like_22 fx_RX12_43 h0 ?_
      refine g_iload_n O dX12_like_25 2 rfl rfl ?_
      refine g_iald O hN dX12_like_26 (kf_12_21 h0) hf (fun hf => ?_)
      refine g_if_ge 33 O dX12_like_27 (by decide) hf (fun c7 hf => ?_) (fun c7 hf => ?_)
      · refine g_aload_n O dX12_like_33 0 rfl rfl ?_
        refine g_getR O dX12_like_34 fx_RX12_43 h0 ?_
        refine g_iload_n O dX12_like_37 1 rfl rfl ?_
        refine g_aload_n O dX12_like_38 0 rfl rfl ?_
        refine g_getR O dX12_like_39 fx_RX12_43 h0 ?_
        refine g_iload_n O dX12_like_42 2 rfl rfl ?_
        refine g_iald O hN dX12_like_43 (kf_12_21 h0) hf (fun hf => ?_)
        refine g_iast O hN dX12_like_44 (kf_12_21 h0) hf (fun m8 hf => ?_)
        refine g_aload_n O dX12_like_45 0 rfl rfl ?_
        refine g_getR O dX12_like_46 fx_RX12_46 h0 ?_
        refine g_iload_n O dX12_like_49 1 rfl rfl ?_
        refine g_aload_n O dX12_like_50 0 rfl rfl ?_
        refine g_getR O dX12_like_51 fx_RX12_46 h0 ?_
        refine g_iload_n O dX12_like_54 2 rfl rfl ?_
        refine g_iald O hN dX12_like_55 (kf_12_22 h0) hf (fun hf => ?_)
        refine g_iast O hN dX12_like_56 (kf_12_22 h0) hf (fun m9 hf => ?_)
        refine g_iconst O dX12_like_57 (0 : Int32) (by decide) ?_
        refine g_istore_nP O dX12_like_58 rfl (by decide) [(3, .int (0 : Int32)), (0, .ref (za Z i0)), (1, .int p1), (2, .int p2)] rfl ?_
        refine g_lp hN (fun (a10 : Int32 × Mem) => G Z C a10.2 59 [(3, .int a10.1), (0, .ref (za Z i0)), (1, .int p1), (2, .int p2)] []) hf (fun a10 _ hN10 hI10 hX10 hf => ?_)
        unfold sX12_like_59 at hf
        refine g_iload_n O dX12_like_59 0 rfl rfl ?_
        refine g_aload_n O dX12_like_60 1 rfl rfl ?_
        refine g_getR O dX12_like_61 fx_RX12_46 h0 ?_
        refine g_iload_n O dX12_like_64 3 rfl rfl ?_
        refine g_iald O hN10 dX12_like_65 (kf_12_22 h0) hf (fun hf => ?_)
        refine g_icmp_ge 97 O dX12_like_66 (by decide) hf (fun c11 hf => ?_) (fun c11 hf => ?_)
        · have hf := hX10 _ hf
          refine g_aload_n O dX12_like_97 1 rfl rfl ?_
          refine g_getR O dX12_like_98 fx_RX12_46 h0 ?_
          refine g_iload_n O dX12_like_101 2 rfl rfl ?_
          refine g_iald O hN dX12_like_102 (kf_12_22 h0) hf (fun hf => ?_)
          exact hR _ _ hf _ _ dX12_like_103
        · refine g_aload_n O dX12_like_69 1 rfl rfl ?_
          refine g_getR O dX12_like_70 fx_RX12_49 h0 ?_
          refine g_bipush O dX12_like_73 (20 : Int32) (by decide) ?_
          refine g_iload_n O dX12_like_75 2 rfl rfl ?_
          refine g_imul O dX12_like_76 ?_
          refine g_iload_n O dX12_like_77 0 rfl rfl ?_
          refine g_iadd O dX12_like_78 ?_
          refine g_aload_n O dX12_like_79 1 rfl rfl ?_
          refine g_getR O dX12_like_80 fx_RX12_49 h0 ?_
          refine g_bipush O dX12_like_83 (20 : Int32) (by decide) ?_
          refine g_iload_n O dX12_like_85 3 rfl rfl ?_
          refine g_imul O dX12_like_86 ?_
          refine g_iload_n O dX12_like_87 0 rfl rfl ?_
          refine g_iadd O dX12_like_88 ?_
          refine g_iald O hN10 dX12_like_89 (kf_12_23 h0) hf (fun hf => ?_)
          refine g_iast O hN10 dX12_like_90 (kf_12_23 h0) hf (fun m12 hf => ?_)
          refine g_iinc O dX12_like_91 0 rfl (by decide) (1) (by decide) (fun y => [(3, .int y), (0, .ref (za Z i0)), (1, .int p1), (2, .int p2)]) (fun _ => rfl) hf (fun x13 hf => ?_)
          refine g_goto 59 O dX12_like_94 (by decide) ?_
          exact hI10 _ hf
      · refine g_bipush O dX12_like_30 (-11 : Int32) (by decide) ?_
        exact hR _ _ hf _ _ dX12_like_32

set_option maxHeartbeats 4000000 in
set_option maxRecDepth 100000 in
theorem ct_X12_unlike {Z : ZT} (hZ : ZOk Z) {σ : Mem} {i0 : Nat} {p1 : Int32} (h0 : kn i0 = 12) {r : (Int32 × Mem)} (hf : fX12_unlike σ i0 p1 = some r) : Ct Z yX12_unlike cX12_unlike 3 (some .int) 1 21 [.ref (za Z i0), .int p1] σ (some (.int r.1)) True r.2 := by
  refine ct_im hZ (by decide +kernel) (Nat.le_of_ble_eq_true rfl) hf (fun C K O hN hR hf => ?_)
  have O : Ok Z C RX12 cX12_unlike 3 1 21 := O
  change G Z C σ 0 [(0, .ref (za Z i0)), (1, .int p1)] []
  unfold fX12_unlike at hf
  refine g_aload_n O dX12_unlike_0 0 rfl rfl ?_
  obtain ⟨q1, hq1, hf⟩ := k_obd hN hf
  refine g_callV (rest := []) O dX12_unlike_1 (ct_X12_parts hZ h0 hq1) vx_RX12_231 h0 rfl rfl (by decide) (Nat.le_of_ble_eq_true rfl) (fun hp2 => ?_)
  change G Z C q1 4 [(0, .ref (za Z i0)), (1, .int p1)] []
  refine g_iconst O dX12_unlike_4 (0 : Int32) (by decide) ?_
  refine g_istore_nP O dX12_unlike_5 rfl (by decide) [(2, .int (0 : Int32)), (0, .ref (za Z i0)), (1, .int p1)] rfl ?_
  refine g_lp hN (fun (a3 : Int32) => G Z C q1 6 [(2, .int a3), (0, .ref (za Z i0)), (1, .int p1)] []) hf (fun a3 _ hN3 hI3 hX3 hf => ?_)
  unfold sX12_unlike_6 at hf
  refine g_iload_n O dX12_unlike_6 0 rfl rfl ?_
  refine g_aload_n O dX12_unlike_7 1 rfl rfl ?_
  refine g_getR O dX12_unlike_8 fx_RX12_55 h0 ?_
  refine g_iload_n O dX12_unlike_11 2 rfl rfl ?_
  refine g_iald O hN3 dX12_unlike_12 (kf_12_25 h0) hf (fun hf => ?_)
  refine g_jn (fun (y4 : Unit) => G Z C q1 57 [(2, .int a3), (0, .ref (za Z i0)), (1, .int p1)] []) hf (fun y4 hf => ?_) (fun k4 hk4 hf => ?_)
  · have hf := hX3 _ hf
    refine g_iload_n O dX12_unlike_57 0 rfl rfl ?_
    refine g_aload_n O dX12_unlike_58 1 rfl rfl ?_
    refine g_getR O dX12_unlike_59 fx_RX12_55 h0 ?_
    refine g_iload_n O dX12_unlike_62 2 rfl rfl ?_
    refine g_iald O hN dX12_unlike_63 (kf_12_25 h0) hf (fun hf => ?_)
    refine g_icmp_ne 79 O dX12_unlike_64 (by decide) hf (fun c5 hf => ?_) (fun c5 hf => ?_)
    · refine g_iload_n O dX12_unlike_67 0 rfl rfl ?_
      refine g_aload_n O dX12_unlike_68 1 rfl rfl ?_
      refine g_getI O dX12_unlike_69 fx_RX12_204 h0 ?_
      refine g_icmp_ne 79 O dX12_unlike_72 (by decide) hf (fun c6 hf => ?_) (fun c6 hf => ?_)
      · refine g_iconst O dX12_unlike_75 (-1 : Int32) (by decide) ?_
        refine g_goto 80 O dX12_unlike_76 (by decide) ?_
        exact hR _ _ hf _ _ dX12_unlike_80
      · refine g_iload_n O dX12_unlike_79 0 rfl rfl ?_
        exact hR _ _ hf _ _ dX12_unlike_80
    · refine g_iload_n O dX12_unlike_79 0 rfl rfl ?_
      exact hR _ _ hf _ _ dX12_unlike_80
  · skip
    refine g_icmp_ge 57 O dX12_unlike_13 (by decide) hf (fun c7 hf => ?_) (fun c7 hf => ?_)
    · exact hk4 _ hf
    · refine g_iload_n O dX12_unlike_16 0 rfl rfl ?_
      refine g_aload_n O dX12_unlike_17 1 rfl rfl ?_
      refine g_getI O dX12_unlike_18 fx_RX12_204 h0 ?_
      refine g_icmp_ge 57 O dX12_unlike_21 (by decide) hf (fun c8 hf => ?_) (fun c8 hf => ?_)
      · exact hk4 _ hf
      · refine g_aload_n O dX12_unlike_24 1 rfl rfl ?_
        refine g_getR O dX12_unlike_25 fx_RX12_58 h0 ?_
        refine g_bipush O dX12_unlike_28 (40 : Int32) (by decide) ?_
        refine g_iload_n O dX12_unlike_30 2 rfl rfl ?_
        refine g_imul O dX12_unlike_31 ?_
        refine g_iload_n O dX12_unlike_32 0 rfl rfl ?_
        refine g_iadd O dX12_unlike_33 ?_
        refine g_iald O hN3 dX12_unlike_34 (kf_12_26 h0) hf (fun hf => ?_)
        refine g_aload_n O dX12_unlike_35 1 rfl rfl ?_
        refine g_getR O dX12_unlike_36 fx_RX12_31 h0 ?_
        refine g_iload_n O dX12_unlike_39 0 rfl rfl ?_
        refine g_iald O hN3 dX12_unlike_40 (kf_12_12 h0) hf (fun hf => ?_)
        refine g_aload_n O dX12_unlike_41 1 rfl rfl ?_
        refine g_getR O dX12_unlike_42 fx_RX12_28 h0 ?_
        refine g_iload_n O dX12_unlike_45 0 rfl rfl ?_
        refine g_iald O hN3 dX12_unlike_46 (kf_12_11 h0) hf (fun hf => ?_)
        refine g_isub O dX12_unlike_47 ?_
        refine g_icmp_ne 57 O dX12_unlike_48 (by decide) hf (fun c9 hf => ?_) (fun c9 hf => ?_)
        · refine g_iinc O dX12_unlike_51 0 rfl (by decide) (1) (by decide) (fun y => [(2, .int y), (0, .ref (za Z i0)), (1, .int p1)]) (fun _ => rfl) hf (fun x10 hf => ?_)
          refine g_goto 6 O dX12_unlike_54 (by decide) ?_
          exact hI3 _ hf
        · exact hk4 _ hf

set_option maxHeartbeats 4000000 in
set_option maxRecDepth 100000 in
theorem ct_X12_isSheet {Z : ZT} (hZ : ZOk Z) {σ : Mem} {p0 : Int32}  {r : Int32} (hf : fX12_isSheet σ p0 = some r) : Ct Z yX12_isSheet cX12_isSheet 1 (some .boolean) 1 22 [.int p0] σ (some (.int r)) (r = 0 ∨ r = 1) σ := by
  refine ct_z hZ (by decide +kernel) (Nat.le_of_ble_eq_true rfl) hf (fun C K O hN hR hf => ?_)
  have O : Ok Z C RX12 cX12_isSheet 1 1 22 := O
  change G Z C σ 0 [(0, .int p0)] []
  unfold fX12_isSheet at hf
  refine g_iload_n O dX12_isSheet_0 0 rfl rfl ?_
  refine g_iconst O dX12_isSheet_1 (0 : Int32) (by decide) ?_
  refine g_iconst O dX12_isSheet_2 (3 : Int32) (by decide) ?_
  obtain ⟨q1, hq1, hf⟩ := k_obd hN hf
  refine g_callS (rest := []) O dX12_isSheet_3 (ct_X12_isIn hZ  hq1) sx_RX12_64 rfl rfl (by decide) (Nat.le_of_ble_eq_true rfl) (fun hp2 => ?_)
  change G Z C σ 6 [(0, .int p0)] [.int q1]
  exact hR _ hf hp2 _ _ dX12_isSheet_6

set_option maxHeartbeats 4000000 in
set_option maxRecDepth 100000 in
theorem ct_X12_tells {Z : ZT} (hZ : ZOk Z) {σ : Mem} {i0 : Nat} {p1 : Int32} {p2 : Int32} (h0 : kn i0 = 12) {r : (Int32 × Mem)} (hf : fX12_tells σ i0 p1 p2 = some r) : Ct Z yX12_tells cX12_tells 5 (some .int) 8 190 [.ref (za Z i0), .int p1, .int p2] σ (some (.int r.1)) True r.2 := by
  refine ct_im hZ (by decide +kernel) (Nat.le_of_ble_eq_true rfl) hf (fun C K O hN hR hf => ?_)
  have O : Ok Z C RX12 cX12_tells 5 8 190 := O
  change G Z C σ 0 [(0, .ref (za Z i0)), (1, .int p1), (2, .int p2)] []
  unfold fX12_tells at hf
  refine g_iload_n O dX12_tells_0 1 rfl rfl ?_
  obtain ⟨q1, hq1, hf⟩ := k_obd hN hf
  refine g_callS (rest := []) O dX12_tells_1 (ct_X12_isSheet hZ  hq1) sx_RX12_257 rfl rfl (by decide) (Nat.le_of_ble_eq_true rfl) (fun hp2 => ?_)
  change G Z C σ 4 [(0, .ref (za Z i0)), (1, .int p1), (2, .int p2)] [.int q1]
  refine g_if_eq 16 O dX12_tells_4 (by decide) hf (fun c3 hf => ?_) (fun c3 hf => ?_)
  · refine g_bipush O dX12_tells_16 (-2 : Int32) (by decide) ?_
    exact hR _ _ hf _ _ dX12_tells_18
  · refine g_iload_n O dX12_tells_7 2 rfl rfl ?_
    refine g_iconst O dX12_tells_8 (0 : Int32) (by decide) ?_
    refine g_iconst O dX12_tells_9 (2 : Int32) (by decide) ?_
    obtain ⟨q4, hq4, hf⟩ := k_obd hN hf
    refine g_callS (rest := []) O dX12_tells_10 (ct_X12_isIn hZ  hq4) sx_RX12_64 rfl rfl (by decide) (Nat.le_of_ble_eq_true rfl) (fun hp5 => ?_)
    change G Z C σ 13 [(0, .ref (za Z i0)), (1, .int p1), (2, .int p2)] [.int q4]
    refine g_if_ne 19 O dX12_tells_13 (by decide) hf (fun c6 hf => ?_) (fun c6 hf => ?_)
    · refine g_bipush O dX12_tells_16 (-2 : Int32) (by decide) ?_
      exact hR _ _ hf _ _ dX12_tells_18
    · refine g_aload_n O dX12_tells_19 0 rfl rfl ?_
      refine g_getR O dX12_tells_20 fx_RX12_52 h0 ?_
      refine g_iload_n O dX12_tells_23 1 rfl rfl ?_
      refine g_iald O hN dX12_tells_24 (kf_12_24 h0) hf (fun hf => ?_)
      refine g_if_ge 31 O dX12_tells_25 (by decide) hf (fun c7 hf => ?_) (fun c7 hf => ?_)
      · refine g_aload_n O dX12_tells_31 0 rfl rfl ?_
        refine g_getR O dX12_tells_32 fx_RX12_55 h0 ?_
        refine g_iload_n O dX12_tells_35 1 rfl rfl ?_
        refine g_iald O hN dX12_tells_36 (kf_12_25 h0) hf (fun hf => ?_)
        refine g_bipush O dX12_tells_37 (6 : Int32) (by decide) ?_
        refine g_icmp_le 45 O dX12_tells_39 (by decide) hf (fun c8 hf => ?_) (fun c8 hf => ?_)
        · refine g_aload_n O dX12_tells_45 0 rfl rfl ?_
          refine g_getR O dX12_tells_46 fx_RX12_9 h0 ?_
          refine g_iconst O dX12_tells_49 (2 : Int32) (by decide) ?_
          refine g_iald O hN dX12_tells_50 (kf_12_0 h0) hf (fun hf => ?_)
          refine g_if_lt 73 O dX12_tells_51 (by decide) hf (fun c9 hf => ?_) (fun c9 hf => ?_)
          · refine g_bipush O dX12_tells_73 (-3 : Int32) (by decide) ?_
            exact hR _ _ hf _ _ dX12_tells_75
          · refine g_aload_n O dX12_tells_54 0 rfl rfl ?_
            refine g_aload_n O dX12_tells_55 0 rfl rfl ?_
            refine g_getR O dX12_tells_56 fx_RX12_9 h0 ?_
            refine g_iconst O dX12_tells_59 (2 : Int32) (by decide) ?_
            refine g_iald O hN dX12_tells_60 (kf_12_0 h0) hf (fun hf => ?_)
            refine g_bipush O dX12_tells_61 (7 : Int32) (by decide) ?_
            refine g_aload_n O dX12_tells_63 0 rfl rfl ?_
            refine g_getR O dX12_tells_64 fx_RX12_9 h0 ?_
            obtain ⟨q10, hq10, hf⟩ := k_obd hN hf
            refine g_callV (rest := []) O dX12_tells_67 (ct_X12_isFilled hZ h0 (kf_12_0 h0) hq10) vx_RX12_169 h0 rfl rfl (by decide) (Nat.le_of_ble_eq_true rfl) (fun hp11 => ?_)
            change G Z C σ 70 [(0, .ref (za Z i0)), (1, .int p1), (2, .int p2)] [.int q10]
            refine g_if_ne 76 O dX12_tells_70 (by decide) hf (fun c12 hf => ?_) (fun c12 hf => ?_)
            · refine g_bipush O dX12_tells_73 (-3 : Int32) (by decide) ?_
              exact hR _ _ hf _ _ dX12_tells_75
            · refine g_aload_n O dX12_tells_76 0 rfl rfl ?_
              obtain ⟨q13, hq13, hf⟩ := k_obd hN hf
              refine g_callV (rest := []) O dX12_tells_77 (ct_X12_saysDesk_ hZ h0 hq13) vx_RX12_192 h0 rfl rfl (by decide) (Nat.le_of_ble_eq_true rfl) (fun hp14 => ?_)
              change G Z C q13 80 [(0, .ref (za Z i0)), (1, .int p1), (2, .int p2)] []
              refine g_iload_n O dX12_tells_80 2 rfl rfl ?_
              refine g_if_ne 90 O dX12_tells_81 (by decide) hf (fun c15 hf => ?_) (fun c15 hf => ?_)
              · refine g_aload_n O dX12_tells_84 0 rfl rfl ?_
                refine g_iload_n O dX12_tells_85 1 rfl rfl ?_
                obtain ⟨q16, hq16, hf⟩ := k_obd hN hf
                refine g_callV (rest := []) O dX12_tells_86 (ct_X12_unlike hZ h0 hq16) vx_RX12_260 h0 rfl rfl (by decide) (Nat.le_of_ble_eq_true rfl) (fun hp17 => ?_)
                change G Z C q16.2 89 [(0, .ref (za Z i0)), (1, .int p1), (2, .int p2)] [.int q16.1]
                exact hR _ _ hf _ _ dX12_tells_89
              · refine g_iconst O dX12_tells_90 (0 : Int32) (by decide) ?_
                refine g_istore_nP O dX12_tells_91 rfl (by decide) [(3, .int (0 : Int32)), (0, .ref (za Z i0)), (1, .int p1), (2, .int p2)] rfl ?_
                refine g_iconst O dX12_tells_92 (0 : Int32) (by decide) ?_
                refine g_istoreP O dX12_tells_93 (by decide) [(4, .int (0 : Int32)), (3, .int (0 : Int32)), (0, .ref (za Z i0)), (1, .int p1), (2, .int p2)] rfl ?_
                refine g_lp hN (fun (a18 : Int32 × Int32 × Mem) => G Z C a18.2.2 95 [(4, .int a18.1), (3, .int a18.2.1), (0, .ref (za Z i0)), (1, .int p1), (2, .int p2)] []) hf (fun a18 _ hN18 hI18 hX18 hf => ?_)
                unfold sX12_tells_95 at hf
                refine g_iload O dX12_tells_95 0 rfl ?_
                refine g_iload_n O dX12_tells_97 4 rfl rfl ?_
                refine g_iconst O dX12_tells_98 (1 : Int32) (by decide) ?_
                refine g_jn (fun (y19 : Int32) => G Z C a18.2.2 108 [(4, .int a18.1), (3, .int a18.2.1), (0, .ref (za Z i0)), (1, .int p1), (2, .int p2)] [.int y19, .int a18.1]) hf (fun y19 hf => ?_) (fun k19 hk19 hf => ?_)
                · refine g_icmp_ge 170 O dX12_tells_108 (by decide) hf (fun c20 hf => ?_) (fun c20 hf => ?_)
                  · have hf := hX18 _ hf
                    refine g_iload_n O dX12_tells_170 1 rfl rfl ?_
                    exact hR _ _ hf _ _ dX12_tells_171
                  · refine g_aload_n O dX12_tells_111 2 rfl rfl ?_
                    refine g_iload_n O dX12_tells_112 4 rfl rfl ?_
                    refine g_iconst O dX12_tells_113 (1 : Int32) (by decide) ?_
                    refine g_jn (fun (y21 : Int32) => G Z C a18.2.2 126 [(4, .int a18.1), (3, .int a18.2.1), (0, .ref (za Z i0)), (1, .int p1), (2, .int p2)] [.int y21, .ref (za Z i0)]) hf (fun y21 hf => ?_) (fun k21 hk21 hf => ?_)
                    · refine g_iload_n O dX12_tells_126 4 rfl rfl ?_
                      refine g_iconst O dX12_tells_127 (1 : Int32) (by decide) ?_
                      refine g_jn (fun (y22 : Int32) => G Z C a18.2.2 142 [(4, .int a18.1), (3, .int a18.2.1), (0, .ref (za Z i0)), (1, .int p1), (2, .int p2)] [.int y22, .int y21, .ref (za Z i0)]) hf (fun y22 hf => ?_) (fun k22 hk22 hf => ?_)
                      · obtain ⟨q23, hq23, hf⟩ := k_obd hN18 hf
                        refine g_callV (rest := []) O dX12_tells_142 (ct_X12_saysDesk hZ h0 hq23) vx_RX12_185 h0 rfl rfl (by decide) (Nat.le_of_ble_eq_true rfl) (fun hp24 => ?_)
                        change G Z C q23 145 [(4, .int a18.1), (3, .int a18.2.1), (0, .ref (za Z i0)), (1, .int p1), (2, .int p2)] []
                        refine g_iload_n O dX12_tells_145 1 rfl rfl ?_
                        refine g_aload_n O dX12_tells_146 2 rfl rfl ?_
                        refine g_iload_n O dX12_tells_147 3 rfl rfl ?_
                        obtain ⟨q25, hq25, hf⟩ := k_obd hN18 hf
                        refine g_callV (rest := [.int a18.2.1]) O dX12_tells_148 (ct_X12_unlike hZ h0 hq25) vx_RX12_260 h0 rfl rfl (by decide) (Nat.le_of_ble_eq_true rfl) (fun hp26 => ?_)
                        change G Z C q25.2 151 [(4, .int a18.1), (3, .int a18.2.1), (0, .ref (za Z i0)), (1, .int p1), (2, .int p2)] [.int q25.1, .int a18.2.1]
                        refine g_if_ge 161 O dX12_tells_151 (by decide) hf (fun c27 hf => ?_) (fun c27 hf => ?_)
                        · refine g_iconst O dX12_tells_161 (0 : Int32) (by decide) ?_
                          refine g_ior O dX12_tells_162 ?_
                          refine g_istore_n O dX12_tells_163 rfl (by decide) (fun y => [(3, .int y), (4, .int a18.1), (0, .ref (za Z i0)), (1, .int p1), (2, .int p2)]) (fun _ => rfl) hf (fun x28 hf => ?_)
                          refine g_iinc O dX12_tells_164 1 rfl (by decide) (1) (by decide) (fun y => [(4, .int y), (3, .int x28), (0, .ref (za Z i0)), (1, .int p1), (2, .int p2)]) (fun _ => rfl) hf (fun x29 hf => ?_)
                          refine g_goto 95 O dX12_tells_167 (by decide) ?_
                          exact hI18 _ hf
                        · refine g_iconst O dX12_tells_154 (1 : Int32) (by decide) ?_
                          refine g_iload O dX12_tells_155 0 rfl ?_
                          refine g_ishl O dX12_tells_157 ?_
                          refine g_goto 162 O dX12_tells_158 (by decide) ?_
                          refine g_ior O dX12_tells_162 ?_
                          refine g_istore_n O dX12_tells_163 rfl (by decide) (fun y => [(3, .int y), (4, .int a18.1), (0, .ref (za Z i0)), (1, .int p1), (2, .int p2)]) (fun _ => rfl) hf (fun x30 hf => ?_)
                          refine g_iinc O dX12_tells_164 1 rfl (by decide) (1) (by decide) (fun y => [(4, .int y), (3, .int x30), (0, .ref (za Z i0)), (1, .int p1), (2, .int p2)]) (fun _ => rfl) hf (fun x31 hf => ?_)
                          refine g_goto 95 O dX12_tells_167 (by decide) ?_
                          exact hI18 _ hf
                      · skip
                        refine g_icmp_ne 136 O dX12_tells_128 (by decide) hf (fun c32 hf => ?_) (fun c32 hf => ?_)
                        · refine g_iload O dX12_tells_131 0 rfl ?_
                          refine g_goto 142 O dX12_tells_133 (by decide) ?_
                          exact hk22 _ hf
                        · refine g_aload_n O dX12_tells_136 2 rfl rfl ?_
                          refine g_getR O dX12_tells_137 fx_RX12_9 h0 ?_
                          refine g_iconst O dX12_tells_140 (3 : Int32) (by decide) ?_
                          refine g_iald O hN18 dX12_tells_141 (kf_12_0 h0) hf (fun hf => ?_)
                          exact hk22 _ hf
                    · skip
                      refine g_icmp_ne 124 O dX12_tells_114 (by decide) hf (fun c33 hf => ?_) (fun c33 hf => ?_)
                      · refine g_aload_n O dX12_tells_117 2 rfl rfl ?_
                        obtain ⟨q34, hq34, hf⟩ := k_obd hN18 hf
                        refine g_callV (rest := [.ref (za Z i0)]) O dX12_tells_118 (ct_X12_numbers hZ h0 hq34) vx_RX12_181 h0 rfl rfl (by decide) (Nat.le_of_ble_eq_true rfl) (fun hp35 => ?_)
                        change G Z C a18.2.2 121 [(4, .int a18.1), (3, .int a18.2.1), (0, .ref (za Z i0)), (1, .int p1), (2, .int p2)] [.int q34, .ref (za Z i0)]
                        refine g_goto 126 O dX12_tells_121 (by decide) ?_
                        exact hk21 _ hf
                      · refine g_iload O dX12_tells_124 0 rfl ?_
                        exact hk21 _ hf
                · skip
                  refine g_icmp_ne 106 O dX12_tells_99 (by decide) hf (fun c36 hf => ?_) (fun c36 hf => ?_)
                  · refine g_iconst O dX12_tells_102 (4 : Int32) (by decide) ?_
                    refine g_goto 108 O dX12_tells_103 (by decide) ?_
                    exact hk19 _ hf
                  · refine g_bipush O dX12_tells_106 (8 : Int32) (by decide) ?_
                    exact hk19 _ hf
        · refine g_bipush O dX12_tells_42 (-2 : Int32) (by decide) ?_
          exact hR _ _ hf _ _ dX12_tells_44
      · refine g_bipush O dX12_tells_28 (-11 : Int32) (by decide) ?_
        exact hR _ _ hf _ _ dX12_tells_30

set_option maxHeartbeats 4000000 in
set_option maxRecDepth 100000 in
theorem ct_X12_image {Z : ZT} (hZ : ZOk Z) {σ : Mem} {i0 : Nat} (h0 : kn i0 = 12) {r : (Int32 × Mem)} (hf : fX12_image σ i0 = some r) : Ct Z yX12_image cX12_image 2 (some .int) 0 0 [.ref (za Z i0)] σ (some (.int r.1)) True r.2 := by
  refine ct_im hZ (by decide +kernel) (Nat.le_of_ble_eq_true rfl) hf (fun C K O hN hR hf => ?_)
  have O : Ok Z C RX12 cX12_image 2 0 0 := O
  change G Z C σ 0 [(0, .ref (za Z i0))] []
  unfold fX12_image at hf
  refine g_iconst O dX12_image_0 (0 : Int32) (by decide) ?_
  refine g_istore_nP O dX12_image_1 rfl (by decide) [(1, .int (0 : Int32)), (0, .ref (za Z i0))] rfl ?_
  refine g_lp hN (fun (a1 : Int32 × Mem) => G Z C a1.2 2 [(1, .int a1.1), (0, .ref (za Z i0))] []) hf (fun a1 _ hN1 hI1 hX1 hf => ?_)
  unfold sX12_image_2 at hf
  refine g_iload_n O dX12_image_2 0 rfl rfl ?_
  refine g_sipush O dX12_image_3 (517 : Int32) (by decide) ?_
  refine g_icmp_ge 27 O dX12_image_6 (by decide) hf (fun c2 hf => ?_) (fun c2 hf => ?_)
  · have hf := hX1 _ hf
    refine g_aload_n O dX12_image_27 1 rfl rfl ?_
    refine g_iconst O dX12_image_28 (1 : Int32) (by decide) ?_
    refine g_put O dX12_image_29 fp_RX12_263 h0 rfl rfl hf (fun m3 hf => ?_)
    refine g_aload_n O dX12_image_32 1 rfl rfl ?_
    refine g_getR O dX12_image_33 fx_RX12_9 h0 ?_
    refine g_iconst O dX12_image_36 (0 : Int32) (by decide) ?_
    refine g_iald O hN dX12_image_37 (kf_12_0 h0) hf (fun hf => ?_)
    exact hR _ _ hf _ _ dX12_image_38
  · refine g_aload_n O dX12_image_9 1 rfl rfl ?_
    refine g_getR O dX12_image_10 fx_RX12_13 h0 ?_
    refine g_iload_n O dX12_image_13 0 rfl rfl ?_
    refine g_aload_n O dX12_image_14 1 rfl rfl ?_
    refine g_getR O dX12_image_15 fx_RX12_9 h0 ?_
    refine g_iload_n O dX12_image_18 0 rfl rfl ?_
    refine g_iald O hN1 dX12_image_19 (kf_12_0 h0) hf (fun hf => ?_)
    refine g_iast O hN1 dX12_image_20 (kf_12_1 h0) hf (fun m4 hf => ?_)
    refine g_iinc O dX12_image_21 0 rfl (by decide) (1) (by decide) (fun y => [(1, .int y), (0, .ref (za Z i0))]) (fun _ => rfl) hf (fun x5 hf => ?_)
    refine g_goto 2 O dX12_image_24 (by decide) ?_
    exact hI1 _ hf

set_option maxHeartbeats 4000000 in
set_option maxRecDepth 100000 in
theorem ct_X12_back {Z : ZT} (hZ : ZOk Z) {σ : Mem} {i0 : Nat} (h0 : kn i0 = 12) {r : (Int32 × Mem)} (hf : fX12_back σ i0 = some r) : Ct Z yX12_back cX12_back 2 (some .int) 0 0 [.ref (za Z i0)] σ (some (.int r.1)) True r.2 := by
  refine ct_im hZ (by decide +kernel) (Nat.le_of_ble_eq_true rfl) hf (fun C K O hN hR hf => ?_)
  have O : Ok Z C RX12 cX12_back 2 0 0 := O
  change G Z C σ 0 [(0, .ref (za Z i0))] []
  unfold fX12_back at hf
  refine g_aload_n O dX12_back_0 0 rfl rfl ?_
  refine g_getI O dX12_back_1 fx_RX12_263 h0 ?_
  refine g_if_ne 10 O dX12_back_4 (by decide) hf (fun c1 hf => ?_) (fun c1 hf => ?_)
  · refine g_bipush O dX12_back_7 (-3 : Int32) (by decide) ?_
    exact hR _ _ hf _ _ dX12_back_9
  · refine g_iconst O dX12_back_10 (0 : Int32) (by decide) ?_
    refine g_istore_nP O dX12_back_11 rfl (by decide) [(1, .int (0 : Int32)), (0, .ref (za Z i0))] rfl ?_
    refine g_lp hN (fun (a2 : Int32 × Mem) => G Z C a2.2 12 [(1, .int a2.1), (0, .ref (za Z i0))] []) hf (fun a2 _ hN2 hI2 hX2 hf => ?_)
    unfold sX12_back_12 at hf
    refine g_iload_n O dX12_back_12 0 rfl rfl ?_
    refine g_sipush O dX12_back_13 (517 : Int32) (by decide) ?_
    refine g_icmp_ge 37 O dX12_back_16 (by decide) hf (fun c3 hf => ?_) (fun c3 hf => ?_)
    · have hf := hX2 _ hf
      refine g_aload_n O dX12_back_37 1 rfl rfl ?_
      refine g_getR O dX12_back_38 fx_RX12_9 h0 ?_
      refine g_iconst O dX12_back_41 (0 : Int32) (by decide) ?_
      refine g_iald O hN dX12_back_42 (kf_12_0 h0) hf (fun hf => ?_)
      exact hR _ _ hf _ _ dX12_back_43
    · refine g_aload_n O dX12_back_19 1 rfl rfl ?_
      refine g_getR O dX12_back_20 fx_RX12_9 h0 ?_
      refine g_iload_n O dX12_back_23 0 rfl rfl ?_
      refine g_aload_n O dX12_back_24 1 rfl rfl ?_
      refine g_getR O dX12_back_25 fx_RX12_13 h0 ?_
      refine g_iload_n O dX12_back_28 0 rfl rfl ?_
      refine g_iald O hN2 dX12_back_29 (kf_12_1 h0) hf (fun hf => ?_)
      refine g_iast O hN2 dX12_back_30 (kf_12_0 h0) hf (fun m4 hf => ?_)
      refine g_iinc O dX12_back_31 0 rfl (by decide) (1) (by decide) (fun y => [(1, .int y), (0, .ref (za Z i0))]) (fun _ => rfl) hf (fun x5 hf => ?_)
      refine g_goto 12 O dX12_back_34 (by decide) ?_
      exact hI2 _ hf

set_option maxHeartbeats 4000000 in
set_option maxRecDepth 100000 in
theorem ct_X12_count {Z : ZT} (hZ : ZOk Z) {σ : Mem} {i0 : Nat} {p1 : Int32} (h0 : kn i0 = 12) {r : (Int32 × Mem)} (hf : fX12_count σ i0 p1 = some r) : Ct Z yX12_count cX12_count 2 (some .int) 8 190 [.ref (za Z i0), .int p1] σ (some (.int r.1)) True r.2 := by
  refine ct_im hZ (by decide +kernel) (Nat.le_of_ble_eq_true rfl) hf (fun C K O hN hR hf => ?_)
  have O : Ok Z C RX12 cX12_count 2 8 190 := O
  change G Z C σ 0 [(0, .ref (za Z i0)), (1, .int p1)] []
  unfold fX12_count at hf
  refine g_iload_n O dX12_count_0 1 rfl rfl ?_
  refine g_iconst O dX12_count_1 (2 : Int32) (by decide) ?_
  refine g_icmp_ne 18 O dX12_count_2 (by decide) hf (fun c1 hf => ?_) (fun c1 hf => ?_)
  · refine g_aload_n O dX12_count_5 0 rfl rfl ?_
    obtain ⟨q2, hq2, hf⟩ := k_obd hN hf
    refine g_callV (rest := []) O dX12_count_6 (ct_X12_takesText hZ h0 hq2) vx_RX12_238 h0 rfl rfl (by decide) (Nat.le_of_ble_eq_true rfl) (fun hp3 => ?_)
    change G Z C q2 9 [(0, .ref (za Z i0)), (1, .int p1)] []
    refine g_aload_n O dX12_count_9 0 rfl rfl ?_
    obtain ⟨q4, hq4, hf⟩ := k_obd hN hf
    refine g_callV (rest := []) O dX12_count_10 (ct_X12_parts hZ h0 hq4) vx_RX12_231 h0 rfl rfl (by decide) (Nat.le_of_ble_eq_true rfl) (fun hp5 => ?_)
    change G Z C q4 13 [(0, .ref (za Z i0)), (1, .int p1)] []
    refine g_aload_n O dX12_count_13 0 rfl rfl ?_
    refine g_getI O dX12_count_14 fx_RX12_204 h0 ?_
    exact hR _ _ hf _ _ dX12_count_17
  · refine g_iload_n O dX12_count_18 1 rfl rfl ?_
    refine g_iconst O dX12_count_19 (3 : Int32) (by decide) ?_
    refine g_jn (fun (y6 : Mem) => G Z C y6 27 [(0, .ref (za Z i0)), (1, .int p1)] []) hf (fun y6 hf => ?_) (fun k6 hk6 hf => ?_)
    · refine g_iload_n O dX12_count_27 1 rfl rfl ?_
      refine g_if_ne 40 O dX12_count_28 (by decide) hf (fun c7 hf => ?_) (fun c7 hf => ?_)
      · refine g_aload_n O dX12_count_31 0 rfl rfl ?_
        refine g_getR O dX12_count_32 fx_RX12_9 h0 ?_
        refine g_iconst O dX12_count_35 (0 : Int32) (by decide) ?_
        refine g_iald O hN dX12_count_36 (kf_12_0 h0) hf (fun hf => ?_)
        refine g_goto 80 O dX12_count_37 (by decide) ?_
        exact hR _ _ hf _ _ dX12_count_80
      · refine g_iload_n O dX12_count_40 1 rfl rfl ?_
        refine g_iconst O dX12_count_41 (1 : Int32) (by decide) ?_
        refine g_icmp_ne 54 O dX12_count_42 (by decide) hf (fun c8 hf => ?_) (fun c8 hf => ?_)
        · refine g_aload_n O dX12_count_45 0 rfl rfl ?_
          refine g_getR O dX12_count_46 fx_RX12_9 h0 ?_
          refine g_iconst O dX12_count_49 (1 : Int32) (by decide) ?_
          refine g_iald O hN dX12_count_50 (kf_12_0 h0) hf (fun hf => ?_)
          refine g_goto 80 O dX12_count_51 (by decide) ?_
          exact hR _ _ hf _ _ dX12_count_80
        · refine g_iload_n O dX12_count_54 1 rfl rfl ?_
          refine g_iconst O dX12_count_55 (3 : Int32) (by decide) ?_
          refine g_icmp_ne 66 O dX12_count_56 (by decide) hf (fun c9 hf => ?_) (fun c9 hf => ?_)
          · refine g_aload_n O dX12_count_59 0 rfl rfl ?_
            refine g_getI O dX12_count_60 fx_RX12_166 h0 ?_
            refine g_goto 80 O dX12_count_63 (by decide) ?_
            exact hR _ _ hf _ _ dX12_count_80
          · refine g_iload_n O dX12_count_66 1 rfl rfl ?_
            refine g_iconst O dX12_count_67 (4 : Int32) (by decide) ?_
            refine g_icmp_ne 78 O dX12_count_68 (by decide) hf (fun c10 hf => ?_) (fun c10 hf => ?_)
            · refine g_aload_n O dX12_count_71 0 rfl rfl ?_
              refine g_getI O dX12_count_72 fx_RX12_72 h0 ?_
              refine g_goto 80 O dX12_count_75 (by decide) ?_
              exact hR _ _ hf _ _ dX12_count_80
            · refine g_bipush O dX12_count_78 (-2 : Int32) (by decide) ?_
              exact hR _ _ hf _ _ dX12_count_80
    · skip
      refine g_icmp_ne 27 O dX12_count_20 (by decide) hf (fun c11 hf => ?_) (fun c11 hf => ?_)
      · refine g_aload_n O dX12_count_23 0 rfl rfl ?_
        obtain ⟨q12, hq12, hf⟩ := k_obd hN hf
        refine g_callV (rest := []) O dX12_count_24 (ct_X12_saysDesk_ hZ h0 hq12) vx_RX12_192 h0 rfl rfl (by decide) (Nat.le_of_ble_eq_true rfl) (fun hp13 => ?_)
        change G Z C q12 27 [(0, .ref (za Z i0)), (1, .int p1)] []
        exact hk6 _ hf
      · exact hk6 _ hf

