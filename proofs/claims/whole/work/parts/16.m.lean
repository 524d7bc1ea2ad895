set_option maxHeartbeats 4000000 in
set_option maxRecDepth 100000 in
theorem ct_X12_letters {Z : ZT} (hZ : ZOk Z) {σ : Mem} {i0 : Nat} {p1 : Int32} {p2 : Int32} (h0 : kn i0 = 12) {r : (Int32 × Mem)} (hf : fX12_letters σ i0 p1 p2 = some r) : Ct Z yX12_letters cX12_letters 5 (some .int) 1 22 [.ref (za Z i0), .int p1, .int p2] σ (some (.int r.1)) True r.2 := by
  refine ct_im hZ (by decide +kernel) (Nat.le_of_ble_eq_true rfl) hf (fun C K O hN hR hf => ?_)
  have O : Ok Z C RX12 cX12_letters 5 1 22 := O
  change G Z C σ 0 [(0, .ref (za Z i0)), (1, .int p1), (2, .int p2)] []
  unfold fX12_letters at hf
  refine g_aload_n O dX12_letters_0 0 rfl rfl ?_
  refine g_getI O dX12_letters_1 fx_RX12_72 h0 ?_
  refine g_istore_n O dX12_letters_4 rfl (by decide) (fun y => [(3, .int y), (0, .ref (za Z i0)), (1, .int p1), (2, .int p2)]) (fun _ => rfl) hf (fun x1 hf => ?_)
  refine g_aload_n O dX12_letters_5 1 rfl rfl ?_
  refine g_iconst O dX12_letters_6 (0 : Int32) (by decide) ?_
  refine g_putI O dX12_letters_7 fp_RX12_72 h0 hf (fun m2 hf => ?_)
  refine g_iload_n O dX12_letters_10 0 rfl rfl ?_
  refine g_iload_n O dX12_letters_11 2 rfl rfl ?_
  refine g_iload_n O dX12_letters_12 3 rfl rfl ?_
  obtain ⟨q3, hq3, hf⟩ := k_obd hN hf
  refine g_callS (rest := []) O dX12_letters_13 (ct_X12_isIn hZ  hq3) sx_RX12_64 rfl rfl (by decide) (Nat.le_of_ble_eq_true rfl) (fun hp4 => ?_)
  change G Z C m2 16 [(3, .int x1), (0, .ref (za Z i0)), (1, .int p1), (2, .int p2)] [.int q3]
  refine g_if_ne 21 O dX12_letters_16 (by decide) hf (fun c5 hf => ?_) (fun c5 hf => ?_)
  · refine g_iconst O dX12_letters_19 (-1 : Int32) (by decide) ?_
    exact hR _ _ hf _ _ dX12_letters_20
  · refine g_iconst O dX12_letters_21 (0 : Int32) (by decide) ?_
    refine g_istoreP O dX12_letters_22 (by decide) [(4, .int (0 : Int32)), (3, .int x1), (0, .ref (za Z i0)), (1, .int p1), (2, .int p2)] rfl ?_
    refine g_sub [0, 1, 2] rfl ?_
    refine g_lp hN (fun (a6 : Int32) => G Z C m2 24 [(4, .int a6), (3, .int x1), (0, .ref (za Z i0))] []) hf (fun a6 _ hN6 hI6 hX6 hf => ?_)
    unfold sX12_letters_24 at hf
    refine g_iload O dX12_letters_24 0 rfl ?_
    refine g_iload_n O dX12_letters_26 1 rfl rfl ?_
    refine g_icmp_ge 55 O dX12_letters_27 (by decide) hf (fun c7 hf => ?_) (fun c7 hf => ?_)
    · have hf := hX6 _ hf
      refine g_iload_n O dX12_letters_55 1 rfl rfl ?_
      exact hR _ _ hf _ _ dX12_letters_56
    · refine g_aload_n O dX12_letters_30 2 rfl rfl ?_
      refine g_getR O dX12_letters_31 fx_RX12_16 h0 ?_
      refine g_iload O dX12_letters_34 0 rfl ?_
      refine g_iald O hN6 dX12_letters_36 (kf_12_3 h0) hf (fun hf => ?_)
      refine g_bipush O dX12_letters_37 (97 : Int32) (by decide) ?_
      refine g_bipush O dX12_letters_39 (122 : Int32) (by decide) ?_
      obtain ⟨q8, hq8, hf⟩ := k_obd hN6 hf
      refine g_callS (rest := []) O dX12_letters_41 (ct_X12_isIn hZ  hq8) sx_RX12_64 rfl rfl (by decide) (Nat.le_of_ble_eq_true rfl) (fun hp9 => ?_)
      change G Z C m2 44 [(4, .int a6), (3, .int x1), (0, .ref (za Z i0))] [.int q8]
      refine g_if_ne 49 O dX12_letters_44 (by decide) hf (fun c10 hf => ?_) (fun c10 hf => ?_)
      · have hf := hX6 _ hf
        refine g_iconst O dX12_letters_47 (-1 : Int32) (by decide) ?_
        exact hR _ _ hf _ _ dX12_letters_48
      · refine g_iinc O dX12_letters_49 0 rfl (by decide) (1) (by decide) (fun y => [(4, .int y), (3, .int x1), (0, .ref (za Z i0))]) (fun _ => rfl) hf (fun x11 hf => ?_)
        refine g_goto 24 O dX12_letters_52 (by decide) ?_
        exact hI6 _ hf

set_option maxHeartbeats 4000000 in
set_option maxRecDepth 100000 in
theorem ct_X12_word {Z : ZT} (hZ : ZOk Z) {σ : Mem} {i0 : Nat} {p1 : Int32} {p2 : Int32} {p3 : Int32} (h0 : kn i0 = 12) {r : (Int32 × Mem)} (hf : fX12_word σ i0 p1 p2 p3 = some r) : Ct Z yX12_word cX12_word 7 (some .int) 2 46 [.ref (za Z i0), .int p1, .int p2, .int p3] σ (some (.int r.1)) True r.2 := by
  refine ct_im hZ (by decide +kernel) (Nat.le_of_ble_eq_true rfl) hf (fun C K O hN hR hf => ?_)
  have O : Ok Z C RX12 cX12_word 7 2 46 := O
  change G Z C σ 0 [(0, .ref (za Z i0)), (1, .int p1), (2, .int p2), (3, .int p3)] []
  unfold fX12_word at hf
  refine g_iload_n O dX12_word_0 1 rfl rfl ?_
  refine g_iconst O dX12_word_1 (0 : Int32) (by decide) ?_
  refine g_iconst O dX12_word_2 (5 : Int32) (by decide) ?_
  obtain ⟨q1, hq1, hf⟩ := k_obd hN hf
  refine g_callS (rest := []) O dX12_word_3 (ct_X12_isIn hZ  hq1) sx_RX12_64 rfl rfl (by decide) (Nat.le_of_ble_eq_true rfl) (fun hp2 => ?_)
  change G Z C σ 6 [(0, .ref (za Z i0)), (1, .int p1), (2, .int p2), (3, .int p3)] [.int q1]
  refine g_if_eq 27 O dX12_word_6 (by decide) hf (fun c3 hf => ?_) (fun c3 hf => ?_)
  · refine g_bipush O dX12_word_27 (-2 : Int32) (by decide) ?_
    exact hR _ _ hf _ _ dX12_word_29
  · refine g_iload_n O dX12_word_9 2 rfl rfl ?_
    refine g_iconst O dX12_word_10 (0 : Int32) (by decide) ?_
    refine g_iconst O dX12_word_11 (3 : Int32) (by decide) ?_
    obtain ⟨q4, hq4, hf⟩ := k_obd hN hf
    refine g_callS (rest := []) O dX12_word_12 (ct_X12_isIn hZ  hq4) sx_RX12_64 rfl rfl (by decide) (Nat.le_of_ble_eq_true rfl) (fun hp5 => ?_)
    change G Z C σ 15 [(0, .ref (za Z i0)), (1, .int p1), (2, .int p2), (3, .int p3)] [.int q4]
    refine g_if_eq 27 O dX12_word_15 (by decide) hf (fun c6 hf => ?_) (fun c6 hf => ?_)
    · refine g_bipush O dX12_word_27 (-2 : Int32) (by decide) ?_
      exact hR _ _ hf _ _ dX12_word_29
    · refine g_iload_n O dX12_word_18 3 rfl rfl ?_
      refine g_iconst O dX12_word_19 (0 : Int32) (by decide) ?_
      refine g_iconst O dX12_word_20 (2 : Int32) (by decide) ?_
      obtain ⟨q7, hq7, hf⟩ := k_obd hN hf
      refine g_callS (rest := []) O dX12_word_21 (ct_X12_isIn hZ  hq7) sx_RX12_64 rfl rfl (by decide) (Nat.le_of_ble_eq_true rfl) (fun hp8 => ?_)
      change G Z C σ 24 [(0, .ref (za Z i0)), (1, .int p1), (2, .int p2), (3, .int p3)] [.int q7]
      refine g_if_ne 30 O dX12_word_24 (by decide) hf (fun c9 hf => ?_) (fun c9 hf => ?_)
      · refine g_bipush O dX12_word_27 (-2 : Int32) (by decide) ?_
        exact hR _ _ hf _ _ dX12_word_29
      · refine g_aload_n O dX12_word_30 0 rfl rfl ?_
        refine g_iconst O dX12_word_31 (1 : Int32) (by decide) ?_
        refine g_bipush O dX12_word_32 (6 : Int32) (by decide) ?_
        obtain ⟨q10, hq10, hf⟩ := k_obd hN hf
        refine g_callV (rest := []) O dX12_word_34 (ct_X12_letters hZ h0 hq10) vx_RX12_76 h0 rfl rfl (by decide) (Nat.le_of_ble_eq_true rfl) (fun hp11 => ?_)
        change G Z C q10.2 37 [(0, .ref (za Z i0)), (1, .int p1), (2, .int p2), (3, .int p3)] [.int q10.1]
        refine g_istoreP O dX12_word_37 (by decide) [(4, .int q10.1), (0, .ref (za Z i0)), (1, .int p1), (2, .int p2), (3, .int p3)] rfl ?_
        refine g_iload O dX12_word_39 0 rfl ?_
        refine g_if_ge 47 O dX12_word_41 (by decide) hf (fun c12 hf => ?_) (fun c12 hf => ?_)
        · refine g_aload_n O dX12_word_47 1 rfl rfl ?_
          refine g_getR O dX12_word_48 fx_RX12_9 h0 ?_
          refine g_iconst O dX12_word_51 (0 : Int32) (by decide) ?_
          refine g_iald O hN dX12_word_52 (kf_12_0 h0) hf (fun hf => ?_)
          refine g_bipush O dX12_word_53 (20 : Int32) (by decide) ?_
          refine g_icmp_ne 61 O dX12_word_55 (by decide) hf (fun c13 hf => ?_) (fun c13 hf => ?_)
          · refine g_bipush O dX12_word_58 (-4 : Int32) (by decide) ?_
            exact hR _ _ hf _ _ dX12_word_60
          · refine g_bipush O dX12_word_61 (14 : Int32) (by decide) ?_
            refine g_bipush O dX12_word_63 (10 : Int32) (by decide) ?_
            refine g_aload_n O dX12_word_65 1 rfl rfl ?_
            refine g_getR O dX12_word_66 fx_RX12_9 h0 ?_
            refine g_iconst O dX12_word_69 (0 : Int32) (by decide) ?_
            refine g_iald O hN dX12_word_70 (kf_12_0 h0) hf (fun hf => ?_)
            refine g_imul O dX12_word_71 ?_
            refine g_iadd O dX12_word_72 ?_
            refine g_istore O dX12_word_73 (by decide) (fun y => [(5, .int y), (4, .int q10.1), (0, .ref (za Z i0)), (1, .int p1), (2, .int p2), (3, .int p3)]) (fun _ => rfl) hf (fun x14 hf => ?_)
            refine g_aload_n O dX12_word_75 2 rfl rfl ?_
            refine g_getR O dX12_word_76 fx_RX12_9 h0 ?_
            refine g_iload O dX12_word_79 0 rfl ?_
            refine g_iload_n O dX12_word_81 3 rfl rfl ?_
            refine g_iast O hN dX12_word_82 (kf_12_0 h0) hf (fun m15 hf => ?_)
            refine g_aload_n O dX12_word_83 2 rfl rfl ?_
            refine g_getR O dX12_word_84 fx_RX12_9 h0 ?_
            refine g_iload O dX12_word_87 0 rfl ?_
            refine g_iconst O dX12_word_89 (1 : Int32) (by decide) ?_
            refine g_iadd O dX12_word_90 ?_
            refine g_iload_n O dX12_word_91 4 rfl rfl ?_
            refine g_iast O hN dX12_word_92 (kf_12_0 h0) hf (fun m16 hf => ?_)
            refine g_aload_n O dX12_word_93 2 rfl rfl ?_
            refine g_getR O dX12_word_94 fx_RX12_9 h0 ?_
            refine g_iload O dX12_word_97 0 rfl ?_
            refine g_iconst O dX12_word_99 (2 : Int32) (by decide) ?_
            refine g_iadd O dX12_word_100 ?_
            refine g_iload_n O dX12_word_101 5 rfl rfl ?_
            refine g_iast O hN dX12_word_102 (kf_12_0 h0) hf (fun m17 hf => ?_)
            refine g_aload_n O dX12_word_103 2 rfl rfl ?_
            refine g_getR O dX12_word_104 fx_RX12_9 h0 ?_
            refine g_iload O dX12_word_107 0 rfl ?_
            refine g_iconst O dX12_word_109 (3 : Int32) (by decide) ?_
            refine g_iadd O dX12_word_110 ?_
            refine g_iload O dX12_word_111 1 rfl ?_
            refine g_iast O hN dX12_word_113 (kf_12_0 h0) hf (fun m18 hf => ?_)
            refine g_iconst O dX12_word_114 (0 : Int32) (by decide) ?_
            refine g_istoreP O dX12_word_115 (by decide) [(6, .int (0 : Int32)), (5, .int x14), (4, .int q10.1), (0, .ref (za Z i0)), (1, .int p1), (2, .int p2), (3, .int p3)] rfl ?_
            refine g_sub [0, 1, 2, 3] rfl ?_
            refine g_lp hN (fun (a19 : Int32 × Mem) => G Z C a19.2 117 [(6, .int a19.1), (5, .int x14), (4, .int q10.1), (0, .ref (za Z i0))] []) hf (fun a19 _ hN19 hI19 hX19 hf => ?_)
            unfold sX12_word_117 at hf
            refine g_iload O dX12_word_117 0 rfl ?_
            refine g_iload O dX12_word_119 2 rfl ?_
            refine g_icmp_ge 149 O dX12_word_121 (by decide) hf (fun c20 hf => ?_) (fun c20 hf => ?_)
            · have hf := hX19 _ hf
              refine g_aload_n O dX12_word_149 3 rfl rfl ?_
              refine g_getR O dX12_word_150 fx_RX12_9 h0 ?_
              refine g_iconst O dX12_word_153 (0 : Int32) (by decide) ?_
              refine g_dup2 O dX12_word_154 rfl rfl ?_
              refine g_iald O hN dX12_word_155 (kf_12_0 h0) hf (fun hf => ?_)
              refine g_iconst O dX12_word_156 (1 : Int32) (by decide) ?_
              refine g_iadd O dX12_word_157 ?_
              refine g_iast O hN dX12_word_158 (kf_12_0 h0) hf (fun m21 hf => ?_)
              refine g_aload_n O dX12_word_159 3 rfl rfl ?_
              refine g_getR O dX12_word_160 fx_RX12_9 h0 ?_
              refine g_iconst O dX12_word_163 (0 : Int32) (by decide) ?_
              refine g_iald O hN dX12_word_164 (kf_12_0 h0) hf (fun hf => ?_)
              refine g_iconst O dX12_word_165 (1 : Int32) (by decide) ?_
              refine g_isub O dX12_word_166 ?_
              exact hR _ _ hf _ _ dX12_word_167
            · refine g_aload_n O dX12_word_124 3 rfl rfl ?_
              refine g_getR O dX12_word_125 fx_RX12_9 h0 ?_
              refine g_iload O dX12_word_128 1 rfl ?_
              refine g_iconst O dX12_word_130 (4 : Int32) (by decide) ?_
              refine g_iadd O dX12_word_131 ?_
              refine g_iload O dX12_word_132 0 rfl ?_
              refine g_iadd O dX12_word_134 ?_
              refine g_aload_n O dX12_word_135 3 rfl rfl ?_
              refine g_getR O dX12_word_136 fx_RX12_16 h0 ?_
              refine g_iload O dX12_word_139 0 rfl ?_
              refine g_iald O hN19 dX12_word_141 (kf_12_3 h0) hf (fun hf => ?_)
              refine g_iast O hN19 dX12_word_142 (kf_12_0 h0) hf (fun m22 hf => ?_)
              refine g_iinc O dX12_word_143 0 rfl (by decide) (1) (by decide) (fun y => [(6, .int y), (5, .int x14), (4, .int q10.1), (0, .ref (za Z i0))]) (fun _ => rfl) hf (fun x23 hf => ?_)
              refine g_goto 117 O dX12_word_146 (by decide) ?_
              exact hI19 _ hf
        · refine g_bipush O dX12_word_44 (-3 : Int32) (by decide) ?_
          exact hR _ _ hf _ _ dX12_word_46

set_option maxHeartbeats 4000000 in
set_option maxRecDepth 100000 in
theorem ct_X12_endAt {Z : ZT} (hZ : ZOk Z) {σ : Mem} {p0 : Int32} {p1 : Int32} {p2 : Int32}  {r : Int32} (hf : fX12_endAt σ p0 p1 p2 = some r) : Ct Z yX12_endAt cX12_endAt 3 (some .int) 0 0 [.int p0, .int p1, .int p2] σ (some (.int r)) True σ := by
  refine ct_i hZ (by decide +kernel) (Nat.le_of_ble_eq_true rfl) hf (fun C K O hN hR hf => ?_)
  have O : Ok Z C RX12 cX12_endAt 3 0 0 := O
  change G Z C σ 0 [(0, .int p0), (1, .int p1), (2, .int p2)] []
  unfold fX12_endAt at hf
  refine g_sipush O dX12_endAt_0 (214 : Int32) (by decide) ?_
  refine g_iconst O dX12_endAt_3 (4 : Int32) (by decide) ?_
  refine g_iconst O dX12_endAt_4 (2 : Int32) (by decide) ?_
  refine g_iconst O dX12_endAt_5 (4 : Int32) (by decide) ?_
  refine g_iload_n O dX12_endAt_6 0 rfl rfl ?_
  refine g_imul O dX12_endAt_7 ?_
  refine g_iload_n O dX12_endAt_8 1 rfl rfl ?_
  refine g_iadd O dX12_endAt_9 ?_
  refine g_imul O dX12_endAt_10 ?_
  refine g_iload_n O dX12_endAt_11 2 rfl rfl ?_
  refine g_iadd O dX12_endAt_12 ?_
  refine g_imul O dX12_endAt_13 ?_
  refine g_iadd O dX12_endAt_14 ?_
  exact hR _ hf _ _ dX12_endAt_15

set_option maxHeartbeats 4000000 in
set_option maxRecDepth 100000 in
theorem ct_X12_ending {Z : ZT} (hZ : ZOk Z) {σ : Mem} {i0 : Nat} {p1 : Int32} {p2 : Int32} {p3 : Int32} (h0 : kn i0 = 12) {r : (Int32 × Mem)} (hf : fX12_ending σ i0 p1 p2 p3 = some r) : Ct Z yX12_ending cX12_ending 8 (some .int) 2 46 [.ref (za Z i0), .int p1, .int p2, .int p3] σ (some (.int r.1)) True r.2 := by
  refine ct_im hZ (by decide +kernel) (Nat.le_of_ble_eq_true rfl) hf (fun C K O hN hR hf => ?_)
  have O : Ok Z C RX12 cX12_ending 8 2 46 := O
  change G Z C σ 0 [(0, .ref (za Z i0)), (1, .int p1), (2, .int p2), (3, .int p3)] []
  unfold fX12_ending at hf
  refine g_iload_n O dX12_ending_0 1 rfl rfl ?_
  refine g_iconst O dX12_ending_1 (0 : Int32) (by decide) ?_
  refine g_iconst O dX12_ending_2 (3 : Int32) (by decide) ?_
  obtain ⟨q1, hq1, hf⟩ := k_obd hN hf
  refine g_callS (rest := []) O dX12_ending_3 (ct_X12_isIn hZ  hq1) sx_RX12_64 rfl rfl (by decide) (Nat.le_of_ble_eq_true rfl) (fun hp2 => ?_)
  change G Z C σ 6 [(0, .ref (za Z i0)), (1, .int p1), (2, .int p2), (3, .int p3)] [.int q1]
  refine g_if_eq 27 O dX12_ending_6 (by decide) hf (fun c3 hf => ?_) (fun c3 hf => ?_)
  · refine g_bipush O dX12_ending_27 (-2 : Int32) (by decide) ?_
    exact hR _ _ hf _ _ dX12_ending_29
  · refine g_iload_n O dX12_ending_9 2 rfl rfl ?_
    refine g_iconst O dX12_ending_10 (0 : Int32) (by decide) ?_
    refine g_iconst O dX12_ending_11 (3 : Int32) (by decide) ?_
    obtain ⟨q4, hq4, hf⟩ := k_obd hN hf
    refine g_callS (rest := []) O dX12_ending_12 (ct_X12_isIn hZ  hq4) sx_RX12_64 rfl rfl (by decide) (Nat.le_of_ble_eq_true rfl) (fun hp5 => ?_)
    change G Z C σ 15 [(0, .ref (za Z i0)), (1, .int p1), (2, .int p2), (3, .int p3)] [.int q4]
    refine g_if_eq 27 O dX12_ending_15 (by decide) hf (fun c6 hf => ?_) (fun c6 hf => ?_)
    · refine g_bipush O dX12_ending_27 (-2 : Int32) (by decide) ?_
      exact hR _ _ hf _ _ dX12_ending_29
    · refine g_iload_n O dX12_ending_18 3 rfl rfl ?_
      refine g_iconst O dX12_ending_19 (0 : Int32) (by decide) ?_
      refine g_iconst O dX12_ending_20 (1 : Int32) (by decide) ?_
      obtain ⟨q7, hq7, hf⟩ := k_obd hN hf
      refine g_callS (rest := []) O dX12_ending_21 (ct_X12_isIn hZ  hq7) sx_RX12_64 rfl rfl (by decide) (Nat.le_of_ble_eq_true rfl) (fun hp8 => ?_)
      change G Z C σ 24 [(0, .ref (za Z i0)), (1, .int p1), (2, .int p2), (3, .int p3)] [.int q7]
      refine g_if_ne 30 O dX12_ending_24 (by decide) hf (fun c9 hf => ?_) (fun c9 hf => ?_)
      · refine g_bipush O dX12_ending_27 (-2 : Int32) (by decide) ?_
        exact hR _ _ hf _ _ dX12_ending_29
      · refine g_aload_n O dX12_ending_30 0 rfl rfl ?_
        refine g_iconst O dX12_ending_31 (0 : Int32) (by decide) ?_
        refine g_iconst O dX12_ending_32 (3 : Int32) (by decide) ?_
        obtain ⟨q10, hq10, hf⟩ := k_obd hN hf
        refine g_callV (rest := []) O dX12_ending_33 (ct_X12_letters hZ h0 hq10) vx_RX12_76 h0 rfl rfl (by decide) (Nat.le_of_ble_eq_true rfl) (fun hp11 => ?_)
        change G Z C q10.2 36 [(0, .ref (za Z i0)), (1, .int p1), (2, .int p2), (3, .int p3)] [.int q10.1]
        refine g_istoreP O dX12_ending_36 (by decide) [(4, .int q10.1), (0, .ref (za Z i0)), (1, .int p1), (2, .int p2), (3, .int p3)] rfl ?_
        refine g_iload O dX12_ending_38 0 rfl ?_
        refine g_if_ge 46 O dX12_ending_40 (by decide) hf (fun c12 hf => ?_) (fun c12 hf => ?_)
        · refine g_iload_n O dX12_ending_46 2 rfl rfl ?_
          refine g_iload_n O dX12_ending_47 3 rfl rfl ?_
          refine g_iload_n O dX12_ending_48 4 rfl rfl ?_
          obtain ⟨q13, hq13, hf⟩ := k_obd hN hf
          refine g_callS (rest := []) O dX12_ending_49 (ct_X12_endAt hZ  hq13) sx_RX12_80 rfl rfl (by decide) (Nat.le_of_ble_eq_true rfl) (fun hp14 => ?_)
          change G Z C q10.2 52 [(4, .int q10.1), (0, .ref (za Z i0)), (1, .int p1), (2, .int p2), (3, .int p3)] [.int q13]
          refine g_istoreP O dX12_ending_52 (by decide) [(5, .int q13), (4, .int q10.1), (0, .ref (za Z i0)), (1, .int p1), (2, .int p2), (3, .int p3)] rfl ?_
          refine g_aload_n O dX12_ending_54 2 rfl rfl ?_
          refine g_getR O dX12_ending_55 fx_RX12_9 h0 ?_
          refine g_iload O dX12_ending_58 0 rfl ?_
          refine g_iald O hN dX12_ending_60 (kf_12_0 h0) hf (fun hf => ?_)
          refine g_istore O dX12_ending_61 (by decide) (fun y => [(6, .int y), (5, .int q13), (4, .int q10.1), (0, .ref (za Z i0)), (1, .int p1), (2, .int p2), (3, .int p3)]) (fun _ => rfl) hf (fun x15 hf => ?_)
          refine g_aload_n O dX12_ending_63 3 rfl rfl ?_
          refine g_getR O dX12_ending_64 fx_RX12_9 h0 ?_
          refine g_iload O dX12_ending_67 1 rfl ?_
          refine g_iload O dX12_ending_69 2 rfl ?_
          refine g_iast O hN dX12_ending_71 (kf_12_0 h0) hf (fun m16 hf => ?_)
          refine g_iconst O dX12_ending_72 (0 : Int32) (by decide) ?_
          refine g_istoreP O dX12_ending_73 (by decide) [(7, .int (0 : Int32)), (6, .int x15), (5, .int q13), (4, .int q10.1), (0, .ref (za Z i0)), (1, .int p1), (2, .int p2), (3, .int p3)] rfl ?_
          refine g_sub [0, 1, 2, 3, 4] rfl ?_
          refine g_lp hN (fun (a17 : Int32 × Mem) => G Z C a17.2 75 [(7, .int a17.1), (6, .int x15), (5, .int q13), (4, .int q10.1), (0, .ref (za Z i0))] []) hf (fun a17 _ hN17 hI17 hX17 hf => ?_)
          unfold sX12_ending_75 at hf
          refine g_iload O dX12_ending_75 0 rfl ?_
          refine g_iload O dX12_ending_77 3 rfl ?_
          refine g_icmp_ge 107 O dX12_ending_79 (by decide) hf (fun c18 hf => ?_) (fun c18 hf => ?_)
          · have hf := hX17 _ hf
            refine g_iload O dX12_ending_107 1 rfl ?_
            exact hR _ _ hf _ _ dX12_ending_109
          · refine g_aload_n O dX12_ending_82 4 rfl rfl ?_
            refine g_getR O dX12_ending_83 fx_RX12_9 h0 ?_
            refine g_iload O dX12_ending_86 2 rfl ?_
            refine g_iconst O dX12_ending_88 (1 : Int32) (by decide) ?_
            refine g_iadd O dX12_ending_89 ?_
            refine g_iload O dX12_ending_90 0 rfl ?_
            refine g_iadd O dX12_ending_92 ?_
            refine g_aload_n O dX12_ending_93 4 rfl rfl ?_
            refine g_getR O dX12_ending_94 fx_RX12_16 h0 ?_
            refine g_iload O dX12_ending_97 0 rfl ?_
            refine g_iald O hN17 dX12_ending_99 (kf_12_3 h0) hf (fun hf => ?_)
            refine g_iast O hN17 dX12_ending_100 (kf_12_0 h0) hf (fun m19 hf => ?_)
            refine g_iinc O dX12_ending_101 0 rfl (by decide) (1) (by decide) (fun y => [(7, .int y), (6, .int x15), (5, .int q13), (4, .int q10.1), (0, .ref (za Z i0))]) (fun _ => rfl) hf (fun x20 hf => ?_)
            refine g_goto 75 O dX12_ending_104 (by decide) ?_
            exact hI17 _ hf
        · refine g_bipush O dX12_ending_43 (-3 : Int32) (by decide) ?_
          exact hR _ _ hf _ _ dX12_ending_45

set_option maxHeartbeats 4000000 in
set_option maxRecDepth 100000 in
theorem ct_X12_joins {Z : ZT} (hZ : ZOk Z) {σ : Mem} {i0 : Nat} {p1 : Int32} {p2 : Int32} (h0 : kn i0 = 12) {r : Mem} (hf : fX12_joins σ i0 p1 p2 = some r) : Ct Z yX12_joins cX12_joins 3 none 1 20 [.ref (za Z i0), .int p1, .int p2] σ none True r := by
  refine ct_v hZ (by decide +kernel) (Nat.le_of_ble_eq_true rfl) hf (fun C K O hN hR hf => ?_)
  have O : Ok Z C RX12 cX12_joins 3 1 20 := O
  change G Z C σ 0 [(0, .ref (za Z i0)), (1, .int p1), (2, .int p2)] []
  unfold fX12_joins at hf
  refine g_iload_n O dX12_joins_0 2 rfl rfl ?_
  refine g_jn (fun (y1 : Mem) => G Z C y1 45 [(0, .ref (za Z i0)), (1, .int p1)] []) hf (fun y1 hf => ?_) (fun k1 hk1 hf => ?_)
  · refine g_aload_n O dX12_joins_45 0 rfl rfl ?_
    refine g_getR O dX12_joins_46 fx_RX12_19 h0 ?_
    refine g_aload_n O dX12_joins_49 0 rfl rfl ?_
    refine g_getI O dX12_joins_50 fx_RX12_84 h0 ?_
    refine g_iload_n O dX12_joins_53 1 rfl rfl ?_
    refine g_iast O hN dX12_joins_54 (kf_12_5 h0) hf (fun m2 hf => ?_)
    refine g_aload_n O dX12_joins_55 0 rfl rfl ?_
    refine g_dup O dX12_joins_56 rfl ?_
    refine g_getI O dX12_joins_57 fx_RX12_84 h0 ?_
    refine g_iconst O dX12_joins_60 (1 : Int32) (by decide) ?_
    refine g_iadd O dX12_joins_61 ?_
    refine g_putI O dX12_joins_62 fp_RX12_84 h0 hf (fun m3 hf => ?_)
    exact hR _ hf _ _ dX12_joins_65
  · skip
    refine g_if_eq 45 O dX12_joins_1 (by decide) hf (fun c4 hf => ?_) (fun c4 hf => ?_)
    · refine g_sub [0, 1] rfl ?_
      exact hk1 _ hf
    · refine g_aload_n O dX12_joins_4 0 rfl rfl ?_
      refine g_getI O dX12_joins_5 fx_RX12_84 h0 ?_
      refine g_if_le 45 O dX12_joins_8 (by decide) hf (fun c5 hf => ?_) (fun c5 hf => ?_)
      · refine g_sub [0, 1] rfl ?_
        exact hk1 _ hf
      · refine g_iload_n O dX12_joins_11 1 rfl rfl ?_
        obtain ⟨q6, hq6, hf⟩ := k_obd hN hf
        refine g_callS (rest := []) O dX12_joins_12 (ct_X12_isVowel hZ  hq6) sx_RX12_87 rfl rfl (by decide) (Nat.le_of_ble_eq_true rfl) (fun hp7 => ?_)
        change G Z C σ 15 [(0, .ref (za Z i0)), (1, .int p1), (2, .int p2)] [.int q6]
        refine g_if_eq 45 O dX12_joins_15 (by decide) hf (fun c8 hf => ?_) (fun c8 hf => ?_)
        · refine g_sub [0, 1] rfl ?_
          exact hk1 _ hf
        · refine g_aload_n O dX12_joins_18 0 rfl rfl ?_
          refine g_getR O dX12_joins_19 fx_RX12_19 h0 ?_
          refine g_aload_n O dX12_joins_22 0 rfl rfl ?_
          refine g_getI O dX12_joins_23 fx_RX12_84 h0 ?_
          refine g_iconst O dX12_joins_26 (1 : Int32) (by decide) ?_
          refine g_isub O dX12_joins_27 ?_
          refine g_iald O hN dX12_joins_28 (kf_12_5 h0) hf (fun hf => ?_)
          obtain ⟨q9, hq9, hf⟩ := k_obd hN hf
          refine g_callS (rest := []) O dX12_joins_29 (ct_X12_isVowel hZ  hq9) sx_RX12_87 rfl rfl (by decide) (Nat.le_of_ble_eq_true rfl) (fun hp10 => ?_)
          change G Z C σ 32 [(0, .ref (za Z i0)), (1, .int p1), (2, .int p2)] [.int q9]
          refine g_if_eq 45 O dX12_joins_32 (by decide) hf (fun c11 hf => ?_) (fun c11 hf => ?_)
          · refine g_sub [0, 1] rfl ?_
            exact hk1 _ hf
          · refine g_aload_n O dX12_joins_35 0 rfl rfl ?_
            refine g_dup O dX12_joins_36 rfl ?_
            refine g_getI O dX12_joins_37 fx_RX12_84 h0 ?_
            refine g_iconst O dX12_joins_40 (1 : Int32) (by decide) ?_
            refine g_isub O dX12_joins_41 ?_
            refine g_putI O dX12_joins_42 fp_RX12_84 h0 hf (fun m12 hf => ?_)
            refine g_sub [0, 1] rfl ?_
            exact hk1 _ hf

set_option maxHeartbeats 4000000 in
set_option maxRecDepth 100000 in
theorem ct_X12_ends {Z : ZT} (hZ : ZOk Z) {σ : Mem} {i0 : Nat} {p1 : Int32} (h0 : kn i0 = 12) {r : Mem} (hf : fX12_ends σ i0 p1 = some r) : Ct Z yX12_ends cX12_ends 3 none 2 42 [.ref (za Z i0), .int p1] σ none True r := by
  refine ct_v hZ (by decide +kernel) (Nat.le_of_ble_eq_true rfl) hf (fun C K O hN hR hf => ?_)
  have O : Ok Z C RX12 cX12_ends 3 2 42 := O
  change G Z C σ 0 [(0, .ref (za Z i0)), (1, .int p1)] []
  unfold fX12_ends at hf
  refine g_iconst O dX12_ends_0 (0 : Int32) (by decide) ?_
  refine g_istore_nP O dX12_ends_1 rfl (by decide) [(2, .int (0 : Int32)), (0, .ref (za Z i0)), (1, .int p1)] rfl ?_
  refine g_lp hN (fun (a1 : Int32 × Mem) => G Z C a1.2 2 [(2, .int a1.1), (0, .ref (za Z i0)), (1, .int p1)] []) hf (fun a1 _ hN1 hI1 hX1 hf => ?_)
  unfold sX12_ends_2 at hf
  refine g_iload_n O dX12_ends_2 0 rfl rfl ?_
  refine g_aload_n O dX12_ends_3 1 rfl rfl ?_
  refine g_getR O dX12_ends_4 fx_RX12_9 h0 ?_
  refine g_iload_n O dX12_ends_7 2 rfl rfl ?_
  refine g_iald O hN1 dX12_ends_8 (kf_12_0 h0) hf (fun hf => ?_)
  refine g_icmp_ge 41 O dX12_ends_9 (by decide) hf (fun c2 hf => ?_) (fun c2 hf => ?_)
  · have hf := hX1 _ hf
    exact hR _ hf _ _ dX12_ends_41
  · refine g_aload_n O dX12_ends_12 1 rfl rfl ?_
    refine g_aload_n O dX12_ends_13 1 rfl rfl ?_
    refine g_getR O dX12_ends_14 fx_RX12_9 h0 ?_
    refine g_iload_n O dX12_ends_17 2 rfl rfl ?_
    refine g_iconst O dX12_ends_18 (1 : Int32) (by decide) ?_
    refine g_iadd O dX12_ends_19 ?_
    refine g_iload_n O dX12_ends_20 0 rfl rfl ?_
    refine g_iadd O dX12_ends_21 ?_
    refine g_iald O hN1 dX12_ends_22 (kf_12_0 h0) hf (fun hf => ?_)
    refine g_iload_n O dX12_ends_23 0 rfl rfl ?_
    refine g_jn (fun (y3 : Int32) => G Z C a1.2 32 [(2, .int a1.1), (0, .ref (za Z i0)), (1, .int p1)] [.int y3, .int (a1.2 (i0 + 1) (ix ((p1 + (1 : Int32)) + a1.1))), .ref (za Z i0)]) hf (fun y3 hf => ?_) (fun k3 hk3 hf => ?_)
    · obtain ⟨q4, hq4, hf⟩ := k_obd hN1 hf
      refine g_callV (rest := []) O dX12_ends_32 (ct_X12_joins hZ h0 hq4) vx_RX12_91 h0 rfl rfl (by decide) (Nat.le_of_ble_eq_true rfl) (fun hp5 => ?_)
      change G Z C q4 35 [(2, .int a1.1), (0, .ref (za Z i0)), (1, .int p1)] []
      refine g_iinc O dX12_ends_35 0 rfl (by decide) (1) (by decide) (fun y => [(2, .int y), (0, .ref (za Z i0)), (1, .int p1)]) (fun _ => rfl) hf (fun x6 hf => ?_)
      refine g_goto 2 O dX12_ends_38 (by decide) ?_
      exact hI1 _ hf
    · skip
      refine g_if_ne 31 O dX12_ends_24 (by decide) hf (fun c7 hf => ?_) (fun c7 hf => ?_)
      · refine g_iconst O dX12_ends_27 (1 : Int32) (by decide) ?_
        refine g_goto 32 O dX12_ends_28 (by decide) ?_
        exact hk3 _ hf
      · refine g_iconst O dX12_ends_31 (0 : Int32) (by decide) ?_
        exact hk3 _ hf

set_option maxHeartbeats 4000000 in
set_option maxRecDepth 100000 in
theorem ct_X12_forms {Z : ZT} (hZ : ZOk Z) {σ : Mem} {i0 : Nat} {p1 : Int32} {p2 : Int32} {p3 : Int32} {p4 : Int32} {p5 : Int32} (h0 : kn i0 = 12) {r : Mem} (hf : fX12_forms σ i0 p1 p2 p3 p4 p5 = some r) : Ct Z yX12_forms cX12_forms 9 none 3 64 [.ref (za Z i0), .int p1, .int p2, .int p3, .int p4, .int p5] σ none True r := by
  refine ct_v hZ (by decide +kernel) (Nat.le_of_ble_eq_true rfl) hf (fun C K O hN hR hf => ?_)
  have O : Ok Z C RX12 cX12_forms 9 3 64 := O
  change G Z C σ 0 [(0, .ref (za Z i0)), (1, .int p1), (2, .int p2), (3, .int p3), (4, .int p4), (5, .int p5)] []
  unfold fX12_forms at hf
  refine g_bipush O dX12_forms_0 (14 : Int32) (by decide) ?_
  refine g_bipush O dX12_forms_2 (10 : Int32) (by decide) ?_
  refine g_iload_n O dX12_forms_4 1 rfl rfl ?_
  refine g_imul O dX12_forms_5 ?_
  refine g_iadd O dX12_forms_6 ?_
  refine g_istore O dX12_forms_7 (by decide) (fun y => [(6, .int y), (0, .ref (za Z i0)), (1, .int p1), (2, .int p2), (3, .int p3), (4, .int p4), (5, .int p5)]) (fun _ => rfl) hf (fun x1 hf => ?_)
  refine g_aload_n O dX12_forms_9 1 rfl rfl ?_
  refine g_getR O dX12_forms_10 fx_RX12_9 h0 ?_
  refine g_iload O dX12_forms_13 0 rfl ?_
  refine g_iald O hN dX12_forms_15 (kf_12_0 h0) hf (fun hf => ?_)
  refine g_istore O dX12_forms_16 (by decide) (fun y => [(7, .int y), (6, .int x1), (0, .ref (za Z i0)), (1, .int p1), (2, .int p2), (3, .int p3), (4, .int p4), (5, .int p5)]) (fun _ => rfl) hf (fun x2 hf => ?_)
  refine g_aload_n O dX12_forms_18 2 rfl rfl ?_
  refine g_iconst O dX12_forms_19 (0 : Int32) (by decide) ?_
  refine g_putI O dX12_forms_20 fp_RX12_84 h0 hf (fun m3 hf => ?_)
  refine g_iconst O dX12_forms_23 (0 : Int32) (by decide) ?_
  refine g_istoreP O dX12_forms_24 (by decide) [(8, .int (0 : Int32)), (7, .int x2), (6, .int x1), (0, .ref (za Z i0)), (1, .int p1), (2, .int p2), (3, .int p3), (4, .int p4), (5, .int p5)] rfl ?_
  refine g_sub [0, 1, 2, 3, 5, 6, 7, 8] rfl ?_
  refine g_lp hN (fun (a4 : Int32 × Mem) => G Z C a4.2 26 [(8, .int a4.1), (7, .int x2), (6, .int x1), (0, .ref (za Z i0)), (2, .int p2), (3, .int p3), (4, .int p4), (5, .int p5)] []) hf (fun a4 _ hN4 hI4 hX4 hf => ?_)
  unfold sX12_forms_26 at hf
  refine g_iload O dX12_forms_26 0 rfl ?_
  refine g_aload_n O dX12_forms_28 3 rfl rfl ?_
  refine g_getR O dX12_forms_29 fx_RX12_9 h0 ?_
  refine g_iload O dX12_forms_32 2 rfl ?_
  refine g_iconst O dX12_forms_34 (3 : Int32) (by decide) ?_
  refine g_iadd O dX12_forms_35 ?_
  refine g_iald O hN4 dX12_forms_36 (kf_12_0 h0) hf (fun hf => ?_)
  refine g_icmp_ge 63 O dX12_forms_37 (by decide) hf (fun c5 hf => ?_) (fun c5 hf => ?_)
  · have hf := hX4 _ hf
    refine g_iload O dX12_forms_63 1 rfl ?_
    refine g_iconst O dX12_forms_65 (1 : Int32) (by decide) ?_
    refine g_jn (fun (y6 : Mem) => G Z C y6 93 [(7, .int x2), (6, .int x1), (0, .ref (za Z i0)), (2, .int p2), (3, .int p3), (4, .int p4), (5, .int p5)] []) hf (fun y6 hf => ?_) (fun k6 hk6 hf => ?_)
    · refine g_iload O dX12_forms_93 0 rfl ?_
      refine g_iconst O dX12_forms_95 (3 : Int32) (by decide) ?_
      refine g_jn (fun (y7 : Mem) => G Z C y7 117 [(7, .int x2), (6, .int x1), (0, .ref (za Z i0)), (3, .int p3), (4, .int p4), (5, .int p5)] []) hf (fun y7 hf => ?_) (fun k7 hk7 hf => ?_)
      · refine g_iload O dX12_forms_117 0 rfl ?_
        refine g_iconst O dX12_forms_119 (2 : Int32) (by decide) ?_
        refine g_jn (fun (y8 : Mem) => G Z C y8 148 [(7, .int x2), (0, .ref (za Z i0)), (4, .int p4), (5, .int p5)] []) hf (fun y8 hf => ?_) (fun k8 hk8 hf => ?_)
        · refine g_iload O dX12_forms_148 0 rfl ?_
          refine g_iconst O dX12_forms_150 (4 : Int32) (by decide) ?_
          refine g_jn (fun (y9 : Mem) => G Z C y9 182 [(7, .int x2), (0, .ref (za Z i0)), (5, .int p5)] []) hf (fun y9 hf => ?_) (fun k9 hk9 hf => ?_)
          · refine g_iload O dX12_forms_182 0 rfl ?_
            refine g_iconst O dX12_forms_184 (5 : Int32) (by decide) ?_
            refine g_icmp_ne 209 O dX12_forms_185 (by decide) hf (fun c10 hf => ?_) (fun c10 hf => ?_)
            · refine g_iload O dX12_forms_188 2 rfl ?_
              refine g_if_eq 209 O dX12_forms_190 (by decide) hf (fun c11 hf => ?_) (fun c11 hf => ?_)
              · exact hR _ hf _ _ dX12_forms_209
              · refine g_aload_n O dX12_forms_193 1 rfl rfl ?_
                refine g_aload_n O dX12_forms_194 1 rfl rfl ?_
                refine g_getR O dX12_forms_195 fx_RX12_19 h0 ?_
                refine g_aload_n O dX12_forms_198 1 rfl rfl ?_
                refine g_getI O dX12_forms_199 fx_RX12_84 h0 ?_
                refine g_iconst O dX12_forms_202 (1 : Int32) (by decide) ?_
                refine g_isub O dX12_forms_203 ?_
                refine g_iald O hN dX12_forms_204 (kf_12_5 h0) hf (fun hf => ?_)
                refine g_iconst O dX12_forms_205 (0 : Int32) (by decide) ?_
                obtain ⟨q12, hq12, hf⟩ := k_obd hN hf
                refine g_callV (rest := []) O dX12_forms_206 (ct_X12_joins hZ h0 hq12) vx_RX12_91 h0 rfl rfl (by decide) (Nat.le_of_ble_eq_true rfl) (fun hp13 => ?_)
                change G Z C q12 209 [(7, .int x2), (0, .ref (za Z i0)), (5, .int p5)] []
                exact hR _ hf _ _ dX12_forms_209
            · exact hR _ hf _ _ dX12_forms_209
          · skip
            refine g_icmp_ne 182 O dX12_forms_151 (by decide) hf (fun c14 hf => ?_) (fun c14 hf => ?_)
            · refine g_aload_n O dX12_forms_154 1 rfl rfl ?_
              refine g_iload O dX12_forms_155 2 rfl ?_
              refine g_jn (fun (y15 : Int32) => G Z C y8 178 [(7, .int x2), (0, .ref (za Z i0)), (5, .int p5)] [.int y15, .ref (za Z i0)]) hf (fun y15 hf => ?_) (fun k15 hk15 hf => ?_)
              · refine g_iconst O dX12_forms_178 (1 : Int32) (by decide) ?_
                obtain ⟨q16, hq16, hf⟩ := k_obd hN hf
                refine g_callV (rest := []) O dX12_forms_179 (ct_X12_joins hZ h0 hq16) vx_RX12_91 h0 rfl rfl (by decide) (Nat.le_of_ble_eq_true rfl) (fun hp17 => ?_)
                change G Z C q16 182 [(7, .int x2), (0, .ref (za Z i0)), (5, .int p5)] []
                exact hk9 _ hf
              · skip
                refine g_if_ne 165 O dX12_forms_157 (by decide) hf (fun c18 hf => ?_) (fun c18 hf => ?_)
                · refine g_bipush O dX12_forms_160 (111 : Int32) (by decide) ?_
                  refine g_goto 178 O dX12_forms_162 (by decide) ?_
                  refine g_sub [0, 1, 3] rfl ?_
                  exact hk15 _ hf
                · refine g_iload O dX12_forms_165 2 rfl ?_
                  refine g_iconst O dX12_forms_167 (1 : Int32) (by decide) ?_
                  refine g_icmp_ne 176 O dX12_forms_168 (by decide) hf (fun c19 hf => ?_) (fun c19 hf => ?_)
                  · refine g_bipush O dX12_forms_171 (97 : Int32) (by decide) ?_
                    refine g_goto 178 O dX12_forms_173 (by decide) ?_
                    refine g_sub [0, 1, 3] rfl ?_
                    exact hk15 _ hf
                  · refine g_bipush O dX12_forms_176 (101 : Int32) (by decide) ?_
                    refine g_sub [0, 1, 3] rfl ?_
                    exact hk15 _ hf
            · refine g_sub [0, 1, 3] rfl ?_
              exact hk9 _ hf
        · skip
          refine g_jn (fun (y20 : Unit) => G Z C y7 129 [(7, .int x2), (6, .int x1), (0, .ref (za Z i0)), (3, .int p3), (4, .int p4), (5, .int p5)] []) hf (fun y20 hf => ?_) (fun k20 hk20 hf => ?_)
          · refine g_aload_n O dX12_forms_129 2 rfl rfl ?_
            refine g_aload_n O dX12_forms_130 2 rfl rfl ?_
            refine g_getR O dX12_forms_131 fx_RX12_9 h0 ?_
            refine g_iload O dX12_forms_134 1 rfl ?_
            refine g_iconst O dX12_forms_136 (1 : Int32) (by decide) ?_
            refine g_iadd O dX12_forms_137 ?_
            refine g_iald O hN dX12_forms_138 (kf_12_0 h0) hf (fun hf => ?_)
            refine g_iload O dX12_forms_139 5 rfl ?_
            refine g_iload_n O dX12_forms_141 3 rfl rfl ?_
            obtain ⟨q21, hq21, hf⟩ := k_obd hN hf
            refine g_callS (rest := [.ref (za Z i0)]) O dX12_forms_142 (ct_X12_endAt hZ  hq21) sx_RX12_80 rfl rfl (by decide) (Nat.le_of_ble_eq_true rfl) (fun hp22 => ?_)
            change G Z C y7 145 [(7, .int x2), (6, .int x1), (0, .ref (za Z i0)), (3, .int p3), (4, .int p4), (5, .int p5)] [.int q21, .ref (za Z i0)]
            obtain ⟨q23, hq23, hf⟩ := k_obd hN hf
            refine g_callV (rest := []) O dX12_forms_145 (ct_X12_ends hZ h0 hq23) vx_RX12_95 h0 rfl rfl (by decide) (Nat.le_of_ble_eq_true rfl) (fun hp24 => ?_)
            change G Z C q23 148 [(7, .int x2), (6, .int x1), (0, .ref (za Z i0)), (3, .int p3), (4, .int p4), (5, .int p5)] []
            refine g_sub [0, 2, 4, 5] rfl ?_
            exact hk8 _ hf
          · skip
            refine g_icmp_eq 129 O dX12_forms_120 (by decide) hf (fun c25 hf => ?_) (fun c25 hf => ?_)
            · exact hk20 _ hf
            · refine g_iload O dX12_forms_123 0 rfl ?_
              refine g_iconst O dX12_forms_125 (5 : Int32) (by decide) ?_
              refine g_icmp_ne 148 O dX12_forms_126 (by decide) hf (fun c26 hf => ?_) (fun c26 hf => ?_)
              · exact hk20 _ hf
              · refine g_sub [0, 2, 4, 5] rfl ?_
                exact hk8 _ hf
      · skip
        refine g_icmp_ne 117 O dX12_forms_96 (by decide) hf (fun c27 hf => ?_) (fun c27 hf => ?_)
        · refine g_aload_n O dX12_forms_99 2 rfl rfl ?_
          refine g_aload_n O dX12_forms_100 2 rfl rfl ?_
          refine g_getR O dX12_forms_101 fx_RX12_9 h0 ?_
          refine g_iload O dX12_forms_104 1 rfl ?_
          refine g_iconst O dX12_forms_106 (1 : Int32) (by decide) ?_
          refine g_iadd O dX12_forms_107 ?_
          refine g_iald O hN dX12_forms_108 (kf_12_0 h0) hf (fun hf => ?_)
          refine g_iload_n O dX12_forms_109 3 rfl rfl ?_
          refine g_iconst O dX12_forms_110 (0 : Int32) (by decide) ?_
          obtain ⟨q28, hq28, hf⟩ := k_obd hN hf
          refine g_callS (rest := [.ref (za Z i0)]) O dX12_forms_111 (ct_X12_endAt hZ  hq28) sx_RX12_80 rfl rfl (by decide) (Nat.le_of_ble_eq_true rfl) (fun hp29 => ?_)
          change G Z C y6 114 [(7, .int x2), (6, .int x1), (0, .ref (za Z i0)), (2, .int p2), (3, .int p3), (4, .int p4), (5, .int p5)] [.int q28, .ref (za Z i0)]
          obtain ⟨q30, hq30, hf⟩ := k_obd hN hf
          refine g_callV (rest := []) O dX12_forms_114 (ct_X12_ends hZ h0 hq30) vx_RX12_95 h0 rfl rfl (by decide) (Nat.le_of_ble_eq_true rfl) (fun hp31 => ?_)
          change G Z C q30 117 [(7, .int x2), (6, .int x1), (0, .ref (za Z i0)), (2, .int p2), (3, .int p3), (4, .int p4), (5, .int p5)] []
          refine g_sub [0, 1, 2, 4, 5, 6] rfl ?_
          exact hk7 _ hf
        · refine g_sub [0, 1, 2, 4, 5, 6] rfl ?_
          exact hk7 _ hf
    · skip
      refine g_jn (fun (y32 : Unit) => G Z C a4.2 75 [(7, .int x2), (6, .int x1), (0, .ref (za Z i0)), (2, .int p2), (3, .int p3), (4, .int p4), (5, .int p5)] []) hf (fun y32 hf => ?_) (fun k32 hk32 hf => ?_)
      · refine g_aload_n O dX12_forms_75 2 rfl rfl ?_
        refine g_aload_n O dX12_forms_76 2 rfl rfl ?_
        refine g_getR O dX12_forms_77 fx_RX12_9 h0 ?_
        refine g_iload O dX12_forms_80 1 rfl ?_
        refine g_iconst O dX12_forms_82 (1 : Int32) (by decide) ?_
        refine g_iadd O dX12_forms_83 ?_
        refine g_iald O hN dX12_forms_84 (kf_12_0 h0) hf (fun hf => ?_)
        refine g_iload_n O dX12_forms_85 3 rfl rfl ?_
        refine g_iload_n O dX12_forms_86 4 rfl rfl ?_
        obtain ⟨q33, hq33, hf⟩ := k_obd hN hf
        refine g_callS (rest := [.ref (za Z i0)]) O dX12_forms_87 (ct_X12_endAt hZ  hq33) sx_RX12_80 rfl rfl (by decide) (Nat.le_of_ble_eq_true rfl) (fun hp34 => ?_)
        change G Z C a4.2 90 [(7, .int x2), (6, .int x1), (0, .ref (za Z i0)), (2, .int p2), (3, .int p3), (4, .int p4), (5, .int p5)] [.int q33, .ref (za Z i0)]
        obtain ⟨q35, hq35, hf⟩ := k_obd hN hf
        refine g_callV (rest := []) O dX12_forms_90 (ct_X12_ends hZ h0 hq35) vx_RX12_95 h0 rfl rfl (by decide) (Nat.le_of_ble_eq_true rfl) (fun hp36 => ?_)
        change G Z C q35 93 [(7, .int x2), (6, .int x1), (0, .ref (za Z i0)), (2, .int p2), (3, .int p3), (4, .int p4), (5, .int p5)] []
        exact hk6 _ hf
      · skip
        refine g_icmp_eq 75 O dX12_forms_66 (by decide) hf (fun c37 hf => ?_) (fun c37 hf => ?_)
        · refine g_sub [1, 2, 3, 4, 5, 6, 7] rfl ?_
          exact hk32 _ hf
        · refine g_iload O dX12_forms_69 1 rfl ?_
          refine g_iconst O dX12_forms_71 (4 : Int32) (by decide) ?_
          refine g_icmp_ne 93 O dX12_forms_72 (by decide) hf (fun c38 hf => ?_) (fun c38 hf => ?_)
          · refine g_sub [1, 2, 3, 4, 5, 6, 7] rfl ?_
            exact hk32 _ hf
          · refine g_sub [1, 2, 3, 4, 5, 6, 7] rfl ?_
            exact hk6 _ hf
  · refine g_aload_n O dX12_forms_40 3 rfl rfl ?_
    refine g_aload_n O dX12_forms_41 3 rfl rfl ?_
    refine g_getR O dX12_forms_42 fx_RX12_9 h0 ?_
    refine g_iload O dX12_forms_45 2 rfl ?_
    refine g_iconst O dX12_forms_47 (4 : Int32) (by decide) ?_
    refine g_iadd O dX12_forms_48 ?_
    refine g_iload O dX12_forms_49 0 rfl ?_
    refine g_iadd O dX12_forms_51 ?_
    refine g_iald O hN4 dX12_forms_52 (kf_12_0 h0) hf (fun hf => ?_)
    refine g_iconst O dX12_forms_53 (0 : Int32) (by decide) ?_
    obtain ⟨q39, hq39, hf⟩ := k_obd hN4 hf
    refine g_callV (rest := []) O dX12_forms_54 (ct_X12_joins hZ h0 hq39) vx_RX12_91 h0 rfl rfl (by decide) (Nat.le_of_ble_eq_true rfl) (fun hp40 => ?_)
    change G Z C q39 57 [(8, .int a4.1), (7, .int x2), (6, .int x1), (0, .ref (za Z i0)), (2, .int p2), (3, .int p3), (4, .int p4), (5, .int p5)] []
    refine g_iinc O dX12_forms_57 0 rfl (by decide) (1) (by decide) (fun y => [(8, .int y), (7, .int x2), (6, .int x1), (0, .ref (za Z i0)), (2, .int p2), (3, .int p3), (4, .int p4), (5, .int p5)]) (fun _ => rfl) hf (fun x41 hf => ?_)
    refine g_goto 26 O dX12_forms_60 (by decide) ?_
    exact hI4 _ hf

set_option maxHeartbeats 4000000 in
set_option maxRecDepth 100000 in
theorem ct_X12_told {Z : ZT} (hZ : ZOk Z) {σ : Mem} {i0 : Nat} {p1 : Int32} {p2 : Int32} (h0 : kn i0 = 12) {r : Int32} (hf : fX12_told σ i0 p1 p2 = some r) : Ct Z yX12_told cX12_told 3 (some .int) 2 43 [.ref (za Z i0), .int p1, .int p2] σ (some (.int r)) True σ := by
  refine ct_i hZ (by decide +kernel) (Nat.le_of_ble_eq_true rfl) hf (fun C K O hN hR hf => ?_)
  have O : Ok Z C RX12 cX12_told 3 2 43 := O
  change G Z C σ 0 [(0, .ref (za Z i0)), (1, .int p1), (2, .int p2)] []
  unfold fX12_told at hf
  refine g_aload_n O dX12_told_0 0 rfl rfl ?_
  refine g_iload_n O dX12_told_1 1 rfl rfl ?_
  obtain ⟨q1, hq1, hf⟩ := k_obd hN hf
  refine g_callV (rest := []) O dX12_told_2 (ct_X12_isWord hZ h0 hq1) vx_RX12_98 h0 rfl rfl (by decide) (Nat.le_of_ble_eq_true rfl) (fun hp2 => ?_)
  change G Z C σ 5 [(0, .ref (za Z i0)), (1, .int p1), (2, .int p2)] [.int q1]
  refine g_if_eq 34 O dX12_told_5 (by decide) hf (fun c3 hf => ?_) (fun c3 hf => ?_)
  · refine g_bipush O dX12_told_34 (-2 : Int32) (by decide) ?_
    exact hR _ hf _ _ dX12_told_36
  · refine g_iload_n O dX12_told_8 2 rfl rfl ?_
    refine g_iconst O dX12_told_9 (0 : Int32) (by decide) ?_
    refine g_iconst O dX12_told_10 (3 : Int32) (by decide) ?_
    obtain ⟨q4, hq4, hf⟩ := k_obd hN hf
    refine g_callS (rest := []) O dX12_told_11 (ct_X12_isIn hZ  hq4) sx_RX12_64 rfl rfl (by decide) (Nat.le_of_ble_eq_true rfl) (fun hp5 => ?_)
    change G Z C σ 14 [(0, .ref (za Z i0)), (1, .int p1), (2, .int p2)] [.int q4]
    refine g_if_eq 34 O dX12_told_14 (by decide) hf (fun c6 hf => ?_) (fun c6 hf => ?_)
    · refine g_bipush O dX12_told_34 (-2 : Int32) (by decide) ?_
      exact hR _ hf _ _ dX12_told_36
    · refine g_aload_n O dX12_told_17 0 rfl rfl ?_
      refine g_getR O dX12_told_18 fx_RX12_9 h0 ?_
      refine g_bipush O dX12_told_21 (14 : Int32) (by decide) ?_
      refine g_bipush O dX12_told_23 (10 : Int32) (by decide) ?_
      refine g_iload_n O dX12_told_25 1 rfl rfl ?_
      refine g_imul O dX12_told_26 ?_
      refine g_iadd O dX12_told_27 ?_
      refine g_iload_n O dX12_told_28 2 rfl rfl ?_
      refine g_iadd O dX12_told_29 ?_
      refine g_iald O hN dX12_told_30 (kf_12_0 h0) hf (fun hf => ?_)
      refine g_goto 36 O dX12_told_31 (by decide) ?_
      exact hR _ hf _ _ dX12_told_36

set_option maxHeartbeats 4000000 in
set_option maxRecDepth 100000 in
theorem ct_X12_taken {Z : ZT} (hZ : ZOk Z) {σ : Mem} {i0 : Nat} {p1 : Int32} {p2 : Int32} (h0 : kn i0 = 12) {r : (Int32 × Mem)} (hf : fX12_taken σ i0 p1 p2 = some r) : Ct Z yX12_taken cX12_taken 3 (some .int) 4 92 [.ref (za Z i0), .int p1, .int p2] σ (some (.int r.1)) True r.2 := by
  refine ct_im hZ (by decide +kernel) (Nat.le_of_ble_eq_true rfl) hf (fun C K O hN hR hf => ?_)
  have O : Ok Z C RX12 cX12_taken 3 4 92 := O
  change G Z C σ 0 [(0, .ref (za Z i0)), (1, .int p1), (2, .int p2)] []
  unfold fX12_taken at hf
  refine g_aload_n O dX12_taken_0 0 rfl rfl ?_
  refine g_iload_n O dX12_taken_1 1 rfl rfl ?_
  obtain ⟨q1, hq1, hf⟩ := k_obd hN hf
  refine g_callV (rest := []) O dX12_taken_2 (ct_X12_isWord hZ h0 hq1) vx_RX12_98 h0 rfl rfl (by decide) (Nat.le_of_ble_eq_true rfl) (fun hp2 => ?_)
  change G Z C σ 5 [(0, .ref (za Z i0)), (1, .int p1), (2, .int p2)] [.int q1]
  refine g_if_eq 17 O dX12_taken_5 (by decide) hf (fun c3 hf => ?_) (fun c3 hf => ?_)
  · refine g_bipush O dX12_taken_17 (-2 : Int32) (by decide) ?_
    exact hR _ _ hf _ _ dX12_taken_19
  · refine g_iload_n O dX12_taken_8 2 rfl rfl ?_
    refine g_iconst O dX12_taken_9 (0 : Int32) (by decide) ?_
    refine g_iconst O dX12_taken_10 (5 : Int32) (by decide) ?_
    obtain ⟨q4, hq4, hf⟩ := k_obd hN hf
    refine g_callS (rest := []) O dX12_taken_11 (ct_X12_isIn hZ  hq4) sx_RX12_64 rfl rfl (by decide) (Nat.le_of_ble_eq_true rfl) (fun hp5 => ?_)
    change G Z C σ 14 [(0, .ref (za Z i0)), (1, .int p1), (2, .int p2)] [.int q4]
    refine g_if_ne 20 O dX12_taken_14 (by decide) hf (fun c6 hf => ?_) (fun c6 hf => ?_)
    · refine g_bipush O dX12_taken_17 (-2 : Int32) (by decide) ?_
      exact hR _ _ hf _ _ dX12_taken_19
    · refine g_aload_n O dX12_taken_20 0 rfl rfl ?_
      refine g_iload_n O dX12_taken_21 1 rfl rfl ?_
      obtain ⟨q7, hq7, hf⟩ := k_obd hN hf
      refine g_callV (rest := []) O dX12_taken_22 (ct_X12_kind hZ h0 hq7) vx_RX12_101 h0 rfl rfl (by decide) (Nat.le_of_ble_eq_true rfl) (fun hp8 => ?_)
      change G Z C σ 25 [(0, .ref (za Z i0)), (1, .int p1), (2, .int p2)] [.int q7]
      refine g_iload_n O dX12_taken_25 2 rfl rfl ?_
      obtain ⟨q9, hq9, hf⟩ := k_obd hN hf
      refine g_callS (rest := []) O dX12_taken_26 (ct_X12_isUnder hZ  hq9) sx_RX12_104 rfl rfl (by decide) (Nat.le_of_ble_eq_true rfl) (fun hp10 => ?_)
      change G Z C σ 29 [(0, .ref (za Z i0)), (1, .int p1), (2, .int p2)] [.int q9]
      refine g_if_ne 35 O dX12_taken_29 (by decide) hf (fun c11 hf => ?_) (fun c11 hf => ?_)
      · refine g_bipush O dX12_taken_32 (-13 : Int32) (by decide) ?_
        exact hR _ _ hf _ _ dX12_taken_34
      · refine g_aload_n O dX12_taken_35 0 rfl rfl ?_
        refine g_iload_n O dX12_taken_36 1 rfl rfl ?_
        refine g_iconst O dX12_taken_37 (1 : Int32) (by decide) ?_
        refine g_iconst O dX12_taken_38 (1 : Int32) (by decide) ?_
        refine g_aload_n O dX12_taken_39 0 rfl rfl ?_
        refine g_iload_n O dX12_taken_40 1 rfl rfl ?_
        obtain ⟨q12, hq12, hf⟩ := k_obd hN hf
        refine g_callV (rest := [.int (1 : Int32), .int (1 : Int32), .int p1, .ref (za Z i0)]) O dX12_taken_41 (ct_X12_gender hZ h0 hq12) vx_RX12_108 h0 rfl rfl (by decide) (Nat.le_of_ble_eq_true rfl) (fun hp13 => ?_)
        change G Z C σ 44 [(0, .ref (za Z i0)), (1, .int p1), (2, .int p2)] [.int q12, .int (1 : Int32), .int (1 : Int32), .int p1, .ref (za Z i0)]
        refine g_iconst O dX12_taken_44 (1 : Int32) (by decide) ?_
        obtain ⟨q14, hq14, hf⟩ := k_obd hN hf
        refine g_callV (rest := []) O dX12_taken_45 (ct_X12_forms hZ h0 hq14) vx_RX12_111 h0 rfl rfl (by decide) (Nat.le_of_ble_eq_true rfl) (fun hp15 => ?_)
        change G Z C q14 48 [(0, .ref (za Z i0)), (1, .int p1), (2, .int p2)] []
        refine g_aload_n O dX12_taken_48 0 rfl rfl ?_
        refine g_getI O dX12_taken_49 fx_RX12_84 h0 ?_
        exact hR _ _ hf _ _ dX12_taken_52

set_option maxHeartbeats 4000000 in
set_option maxRecDepth 100000 in
theorem ct_X12_form {Z : ZT} (hZ : ZOk Z) {σ : Mem} {i0 : Nat} {p1 : Int32} {p2 : Int32} {p3 : Int32} (h0 : kn i0 = 12) {r : (Int32 × Mem)} (hf : fX12_form σ i0 p1 p2 p3 = some r) : Ct Z yX12_form cX12_form 4 (some .int) 4 92 [.ref (za Z i0), .int p1, .int p2, .int p3] σ (some (.int r.1)) True r.2 := by
  refine ct_im hZ (by decide +kernel) (Nat.le_of_ble_eq_true rfl) hf (fun C K O hN hR hf => ?_)
  have O : Ok Z C RX12 cX12_form 4 4 92 := O
  change G Z C σ 0 [(0, .ref (za Z i0)), (1, .int p1), (2, .int p2), (3, .int p3)] []
  unfold fX12_form at hf
  refine g_aload_n O dX12_form_0 0 rfl rfl ?_
  refine g_iload_n O dX12_form_1 1 rfl rfl ?_
  obtain ⟨q1, hq1, hf⟩ := k_obd hN hf
  refine g_callV (rest := []) O dX12_form_2 (ct_X12_isWord hZ h0 hq1) vx_RX12_98 h0 rfl rfl (by decide) (Nat.le_of_ble_eq_true rfl) (fun hp2 => ?_)
  change G Z C σ 5 [(0, .ref (za Z i0)), (1, .int p1), (2, .int p2), (3, .int p3)] [.int q1]
  refine g_if_eq 18 O dX12_form_5 (by decide) hf (fun c3 hf => ?_) (fun c3 hf => ?_)
  · refine g_bipush O dX12_form_18 (-2 : Int32) (by decide) ?_
    exact hR _ _ hf _ _ dX12_form_20
  · refine g_iload_n O dX12_form_8 2 rfl rfl ?_
    refine g_iconst O dX12_form_9 (0 : Int32) (by decide) ?_
    refine g_bipush O dX12_form_10 (95 : Int32) (by decide) ?_
    obtain ⟨q4, hq4, hf⟩ := k_obd hN hf
    refine g_callS (rest := []) O dX12_form_12 (ct_X12_isIn hZ  hq4) sx_RX12_64 rfl rfl (by decide) (Nat.le_of_ble_eq_true rfl) (fun hp5 => ?_)
    change G Z C σ 15 [(0, .ref (za Z i0)), (1, .int p1), (2, .int p2), (3, .int p3)] [.int q4]
    refine g_if_ne 21 O dX12_form_15 (by decide) hf (fun c6 hf => ?_) (fun c6 hf => ?_)
    · refine g_bipush O dX12_form_18 (-2 : Int32) (by decide) ?_
      exact hR _ _ hf _ _ dX12_form_20
    · refine g_aload_n O dX12_form_21 0 rfl rfl ?_
      refine g_iload_n O dX12_form_22 1 rfl rfl ?_
      refine g_iload_n O dX12_form_23 2 rfl rfl ?_
      refine g_iconst O dX12_form_24 (4 : Int32) (by decide) ?_
      refine g_iremC O (by decide) dX12_form_25 ?_
      refine g_iload_n O dX12_form_26 2 rfl rfl ?_
      refine g_iconst O dX12_form_27 (4 : Int32) (by decide) ?_
      refine g_idivC O (by decide) dX12_form_28 ?_
      refine g_iconst O dX12_form_29 (2 : Int32) (by decide) ?_
      refine g_iremC O (by decide) dX12_form_30 ?_
      refine g_iload_n O dX12_form_31 2 rfl rfl ?_
      refine g_bipush O dX12_form_32 (8 : Int32) (by decide) ?_
      refine g_idivC O (by decide) dX12_form_34 ?_
      refine g_iconst O dX12_form_35 (3 : Int32) (by decide) ?_
      refine g_iremC O (by decide) dX12_form_36 ?_
      refine g_iload_n O dX12_form_37 2 rfl rfl ?_
      refine g_bipush O dX12_form_38 (24 : Int32) (by decide) ?_
      refine g_idivC O (by decide) dX12_form_40 ?_
      obtain ⟨q7, hq7, hf⟩ := k_obd hN hf
      refine g_callV (rest := []) O dX12_form_41 (ct_X12_forms hZ h0 hq7) vx_RX12_111 h0 rfl rfl (by decide) (Nat.le_of_ble_eq_true rfl) (fun hp8 => ?_)
      change G Z C q7 44 [(0, .ref (za Z i0)), (1, .int p1), (2, .int p2), (3, .int p3)] []
      refine g_iload_n O dX12_form_44 3 rfl rfl ?_
      refine g_iconst O dX12_form_45 (-1 : Int32) (by decide) ?_
      refine g_icmp_ne 56 O dX12_form_46 (by decide) hf (fun c9 hf => ?_) (fun c9 hf => ?_)
      · refine g_aload_n O dX12_form_49 0 rfl rfl ?_
        refine g_getI O dX12_form_50 fx_RX12_84 h0 ?_
        refine g_goto 81 O dX12_form_53 (by decide) ?_
        exact hR _ _ hf _ _ dX12_form_81
      · refine g_iload_n O dX12_form_56 3 rfl rfl ?_
        refine g_iconst O dX12_form_57 (0 : Int32) (by decide) ?_
        refine g_aload_n O dX12_form_58 0 rfl rfl ?_
        refine g_getI O dX12_form_59 fx_RX12_84 h0 ?_
        refine g_iconst O dX12_form_62 (1 : Int32) (by decide) ?_
        refine g_isub O dX12_form_63 ?_
        obtain ⟨q10, hq10, hf⟩ := k_obd hN hf
        refine g_callS (rest := []) O dX12_form_64 (ct_X12_isIn hZ  hq10) sx_RX12_64 rfl rfl (by decide) (Nat.le_of_ble_eq_true rfl) (fun hp11 => ?_)
        change G Z C q7 67 [(0, .ref (za Z i0)), (1, .int p1), (2, .int p2), (3, .int p3)] [.int q10]
        refine g_if_eq 79 O dX12_form_67 (by decide) hf (fun c12 hf => ?_) (fun c12 hf => ?_)
        · refine g_bipush O dX12_form_79 (-12 : Int32) (by decide) ?_
          exact hR _ _ hf _ _ dX12_form_81
        · refine g_aload_n O dX12_form_70 0 rfl rfl ?_
          refine g_getR O dX12_form_71 fx_RX12_19 h0 ?_
          refine g_iload_n O dX12_form_74 3 rfl rfl ?_
          refine g_iald O hN dX12_form_75 (kf_12_5 h0) hf (fun hf => ?_)
          refine g_goto 81 O dX12_form_76 (by decide) ?_
          exact hR _ _ hf _ _ dX12_form_81

set_option maxHeartbeats 4000000 in
set_option maxRecDepth 100000 in
theorem ct_X12_holes {Z : ZT} (hZ : ZOk Z) {σ : Mem} {i0 : Nat} {p1 : Int32} (h0 : kn i0 = 12) {r : Int32} (hf : fX12_holes σ i0 p1 = some r) : Ct Z yX12_holes cX12_holes 2 (some .int) 0 0 [.ref (za Z i0), .int p1] σ (some (.int r)) True σ := by
  refine ct_i hZ (by decide +kernel) (Nat.le_of_ble_eq_true rfl) hf (fun C K O hN hR hf => ?_)
  have O : Ok Z C RX12 cX12_holes 2 0 0 := O
  change G Z C σ 0 [(0, .ref (za Z i0)), (1, .int p1)] []
  unfold fX12_holes at hf
  refine g_aload_n O dX12_holes_0 0 rfl rfl ?_
  refine g_getR O dX12_holes_1 fx_RX12_9 h0 ?_
  refine g_sipush O dX12_holes_4 (342 : Int32) (by decide) ?_
  refine g_bipush O dX12_holes_7 (25 : Int32) (by decide) ?_
  refine g_iload_n O dX12_holes_9 1 rfl rfl ?_
  refine g_imul O dX12_holes_10 ?_
  refine g_iadd O dX12_holes_11 ?_
  refine g_iald O hN dX12_holes_12 (kf_12_0 h0) hf (fun hf => ?_)
  exact hR _ hf _ _ dX12_holes_13

set_option maxHeartbeats 4000000 in
set_option maxRecDepth 100000 in
theorem ct_X12_ofHole {Z : ZT} (hZ : ZOk Z) {σ : Mem} {i0 : Nat} {p1 : Int32} {p2 : Int32} {p3 : Int32} (h0 : kn i0 = 12) {r : Int32} (hf : fX12_ofHole σ i0 p1 p2 p3 = some r) : Ct Z yX12_ofHole cX12_ofHole 4 (some .int) 0 0 [.ref (za Z i0), .int p1, .int p2, .int p3] σ (some (.int r)) True σ := by
  refine ct_i hZ (by decide +kernel) (Nat.le_of_ble_eq_true rfl) hf (fun C K O hN hR hf => ?_)
  have O : Ok Z C RX12 cX12_ofHole 4 0 0 := O
  change G Z C σ 0 [(0, .ref (za Z i0)), (1, .int p1), (2, .int p2), (3, .int p3)] []
  unfold fX12_ofHole at hf
  refine g_aload_n O dX12_ofHole_0 0 rfl rfl ?_
  refine g_getR O dX12_ofHole_1 fx_RX12_9 h0 ?_
  refine g_sipush O dX12_ofHole_4 (342 : Int32) (by decide) ?_
  refine g_bipush O dX12_ofHole_7 (25 : Int32) (by decide) ?_
  refine g_iload_n O dX12_ofHole_9 1 rfl rfl ?_
  refine g_imul O dX12_ofHole_10 ?_
  refine g_iadd O dX12_ofHole_11 ?_
  refine g_iconst O dX12_ofHole_12 (1 : Int32) (by decide) ?_
  refine g_iadd O dX12_ofHole_13 ?_
  refine g_iconst O dX12_ofHole_14 (4 : Int32) (by decide) ?_
  refine g_iload_n O dX12_ofHole_15 2 rfl rfl ?_
  refine g_imul O dX12_ofHole_16 ?_
  refine g_iadd O dX12_ofHole_17 ?_
  refine g_iload_n O dX12_ofHole_18 3 rfl rfl ?_
  refine g_iadd O dX12_ofHole_19 ?_
  refine g_iald O hN dX12_ofHole_20 (kf_12_0 h0) hf (fun hf => ?_)
  exact hR _ hf _ _ dX12_ofHole_21

set_option maxHeartbeats 4000000 in
set_option maxRecDepth 100000 in
theorem ct_X12_canBe {Z : ZT} (hZ : ZOk Z) {σ : Mem} {i0 : Nat} {p1 : Int32} {p2 : Int32} {p3 : Int32} (h0 : kn i0 = 12) {r : Int32} (hf : fX12_canBe σ i0 p1 p2 p3 = some r) : Ct Z yX12_canBe cX12_canBe 6 (some .boolean) 1 23 [.ref (za Z i0), .int p1, .int p2, .int p3] σ (some (.int r)) (r = 0 ∨ r = 1) σ := by
  refine ct_z hZ (by decide +kernel) (Nat.le_of_ble_eq_true rfl) hf (fun C K O hN hR hf => ?_)
  have O : Ok Z C RX12 cX12_canBe 6 1 23 := O
  change G Z C σ 0 [(0, .ref (za Z i0)), (1, .int p1), (2, .int p2), (3, .int p3)] []
  unfold fX12_canBe at hf
  refine g_aload_n O dX12_canBe_0 0 rfl rfl ?_
  refine g_iload_n O dX12_canBe_1 1 rfl rfl ?_
  refine g_iload_n O dX12_canBe_2 2 rfl rfl ?_
  refine g_iconst O dX12_canBe_3 (0 : Int32) (by decide) ?_
  obtain ⟨q1, hq1, hf⟩ := k_obd hN hf
  refine g_callV (rest := []) O dX12_canBe_4 (ct_X12_ofHole hZ h0 hq1) vx_RX12_115 h0 rfl rfl (by decide) (Nat.le_of_ble_eq_true rfl) (fun hp2 => ?_)
  change G Z C σ 7 [(0, .ref (za Z i0)), (1, .int p1), (2, .int p2), (3, .int p3)] [.int q1]
  refine g_istoreP O dX12_canBe_7 (by decide) [(4, .int q1), (0, .ref (za Z i0)), (1, .int p1), (2, .int p2), (3, .int p3)] rfl ?_
  refine g_aload_n O dX12_canBe_9 1 rfl rfl ?_
  refine g_iload_n O dX12_canBe_10 4 rfl rfl ?_
  obtain ⟨q3, hq3, hf⟩ := k_obd hN hf
  refine g_callV (rest := []) O dX12_canBe_11 (ct_X12_kind hZ h0 hq3) vx_RX12_101 h0 rfl rfl (by decide) (Nat.le_of_ble_eq_true rfl) (fun hp4 => ?_)
  change G Z C σ 14 [(4, .int q1), (0, .ref (za Z i0)), (1, .int p1), (2, .int p2), (3, .int p3)] [.int q3]
  refine g_istoreP O dX12_canBe_14 (by decide) [(5, .int q3), (4, .int q1), (0, .ref (za Z i0)), (1, .int p1), (2, .int p2), (3, .int p3)] rfl ?_
  refine g_iload O dX12_canBe_16 1 rfl ?_
  refine g_bipush O dX12_canBe_18 (110 : Int32) (by decide) ?_
  refine g_icmp_ne 43 O dX12_canBe_20 (by decide) hf (fun c5 hf => ?_) (fun c5 hf => ?_)
  · refine g_iload O dX12_canBe_23 0 rfl ?_
    refine g_iconst O dX12_canBe_25 (1 : Int32) (by decide) ?_
    refine g_icmp_eq 35 O dX12_canBe_26 (by decide) hf (fun c6 hf => ?_) (fun c6 hf => ?_)
    · refine g_iconst O dX12_canBe_35 (1 : Int32) (by decide) ?_
      refine g_goto 107 O dX12_canBe_36 (by decide) ?_
      exact hR _ hf (Or.inr rfl) _ _ dX12_canBe_107
    · refine g_iload O dX12_canBe_29 0 rfl ?_
      refine g_iconst O dX12_canBe_31 (3 : Int32) (by decide) ?_
      refine g_icmp_ne 39 O dX12_canBe_32 (by decide) hf (fun c7 hf => ?_) (fun c7 hf => ?_)
      · refine g_iconst O dX12_canBe_35 (1 : Int32) (by decide) ?_
        refine g_goto 107 O dX12_canBe_36 (by decide) ?_
        exact hR _ hf (Or.inr rfl) _ _ dX12_canBe_107
      · refine g_iconst O dX12_canBe_39 (0 : Int32) (by decide) ?_
        refine g_goto 107 O dX12_canBe_40 (by decide) ?_
        exact hR _ hf (Or.inl rfl) _ _ dX12_canBe_107
  · refine g_iload O dX12_canBe_43 1 rfl ?_
    refine g_bipush O dX12_canBe_45 (118 : Int32) (by decide) ?_
    refine g_icmp_ne 70 O dX12_canBe_47 (by decide) hf (fun c8 hf => ?_) (fun c8 hf => ?_)
    · refine g_iload O dX12_canBe_50 0 rfl ?_
      refine g_iconst O dX12_canBe_52 (2 : Int32) (by decide) ?_
      refine g_icmp_eq 62 O dX12_canBe_53 (by decide) hf (fun c9 hf => ?_) (fun c9 hf => ?_)
      · refine g_iconst O dX12_canBe_62 (1 : Int32) (by decide) ?_
        refine g_goto 107 O dX12_canBe_63 (by decide) ?_
        exact hR _ hf (Or.inr rfl) _ _ dX12_canBe_107
      · refine g_iload O dX12_canBe_56 0 rfl ?_
        refine g_iconst O dX12_canBe_58 (5 : Int32) (by decide) ?_
        refine g_icmp_ne 66 O dX12_canBe_59 (by decide) hf (fun c10 hf => ?_) (fun c10 hf => ?_)
        · refine g_iconst O dX12_canBe_62 (1 : Int32) (by decide) ?_
          refine g_goto 107 O dX12_canBe_63 (by decide) ?_
          exact hR _ hf (Or.inr rfl) _ _ dX12_canBe_107
        · refine g_iconst O dX12_canBe_66 (0 : Int32) (by decide) ?_
          refine g_goto 107 O dX12_canBe_67 (by decide) ?_
          exact hR _ hf (Or.inl rfl) _ _ dX12_canBe_107
    · refine g_iload O dX12_canBe_70 1 rfl ?_
      refine g_bipush O dX12_canBe_72 (102 : Int32) (by decide) ?_
      refine g_icmp_ne 91 O dX12_canBe_74 (by decide) hf (fun c11 hf => ?_) (fun c11 hf => ?_)
      · refine g_iload O dX12_canBe_77 0 rfl ?_
        refine g_iconst O dX12_canBe_79 (4 : Int32) (by decide) ?_
        refine g_icmp_ne 87 O dX12_canBe_80 (by decide) hf (fun c12 hf => ?_) (fun c12 hf => ?_)
        · refine g_iconst O dX12_canBe_83 (1 : Int32) (by decide) ?_
          refine g_goto 107 O dX12_canBe_84 (by decide) ?_
          exact hR _ hf (Or.inr rfl) _ _ dX12_canBe_107
        · refine g_iconst O dX12_canBe_87 (0 : Int32) (by decide) ?_
          refine g_goto 107 O dX12_canBe_88 (by decide) ?_
          exact hR _ hf (Or.inl rfl) _ _ dX12_canBe_107
      · refine g_iload_n O dX12_canBe_91 5 rfl rfl ?_
        refine g_aload_n O dX12_canBe_92 2 rfl rfl ?_
        refine g_iload_n O dX12_canBe_93 3 rfl rfl ?_
        refine g_iload_n O dX12_canBe_94 4 rfl rfl ?_
        refine g_iconst O dX12_canBe_95 (3 : Int32) (by decide) ?_
        obtain ⟨q13, hq13, hf⟩ := k_obd hN hf
        refine g_callV (rest := [.int p3]) O dX12_canBe_96 (ct_X12_ofHole hZ h0 hq13) vx_RX12_115 h0 rfl rfl (by decide) (Nat.le_of_ble_eq_true rfl) (fun hp14 => ?_)
        change G Z C σ 99 [(5, .int q3), (4, .int q1), (0, .ref (za Z i0)), (1, .int p1), (2, .int p2), (3, .int p3)] [.int q13, .int p3]
        refine g_icmp_ne 106 O dX12_canBe_99 (by decide) hf (fun c15 hf => ?_) (fun c15 hf => ?_)
        · refine g_iconst O dX12_canBe_102 (1 : Int32) (by decide) ?_
          refine g_goto 107 O dX12_canBe_103 (by decide) ?_
          exact hR _ hf (Or.inr rfl) _ _ dX12_canBe_107
        · refine g_iconst O dX12_canBe_106 (0 : Int32) (by decide) ?_
          exact hR _ hf (Or.inl rfl) _ _ dX12_canBe_107

set_option maxHeartbeats 4000000 in
set_option maxRecDepth 100000 in
theorem ct_X12_here {Z : ZT} (hZ : ZOk Z) {σ : Mem} {i0 : Nat} {p1 : Int32} (h0 : kn i0 = 12) {r : Int32} (hf : fX12_here σ i0 p1 = some r) : Ct Z yX12_here cX12_here 2 (some .int) 0 0 [.ref (za Z i0), .int p1] σ (some (.int r)) True σ := by
  refine ct_i hZ (by decide +kernel) (Nat.le_of_ble_eq_true rfl) hf (fun C K O hN hR hf => ?_)
  have O : Ok Z C RX12 cX12_here 2 0 0 := O
  change G Z C σ 0 [(0, .ref (za Z i0)), (1, .int p1)] []
  unfold fX12_here at hf
  refine g_iload_n O dX12_here_0 1 rfl rfl ?_
  refine g_aload_n O dX12_here_1 0 rfl rfl ?_
  refine g_getI O dX12_here_2 fx_RX12_72 h0 ?_
  refine g_icmp_ge 17 O dX12_here_5 (by decide) hf (fun c1 hf => ?_) (fun c1 hf => ?_)
  · refine g_iconst O dX12_here_17 (-1 : Int32) (by decide) ?_
    exact hR _ hf _ _ dX12_here_18
  · refine g_aload_n O dX12_here_8 0 rfl rfl ?_
    refine g_getR O dX12_here_9 fx_RX12_16 h0 ?_
    refine g_iload_n O dX12_here_12 1 rfl rfl ?_
    refine g_iald O hN dX12_here_13 (kf_12_3 h0) hf (fun hf => ?_)
    refine g_goto 18 O dX12_here_14 (by decide) ?_
    exact hR _ hf _ _ dX12_here_18

set_option maxHeartbeats 4000000 in
set_option maxRecDepth 100000 in
theorem ct_X12_isDigit {Z : ZT} (hZ : ZOk Z) {σ : Mem} {i0 : Nat} {p1 : Int32} {p2 : Int32} (h0 : kn i0 = 12) {r : Int32} (hf : fX12_isDigit σ i0 p1 p2 = some r) : Ct Z yX12_isDigit cX12_isDigit 3 (some .boolean) 1 22 [.ref (za Z i0), .int p1, .int p2] σ (some (.int r)) (r = 0 ∨ r = 1) σ := by
  refine ct_z hZ (by decide +kernel) (Nat.le_of_ble_eq_true rfl) hf (fun C K O hN hR hf => ?_)
  have O : Ok Z C RX12 cX12_isDigit 3 1 22 := O
  change G Z C σ 0 [(0, .ref (za Z i0)), (1, .int p1), (2, .int p2)] []
  unfold fX12_isDigit at hf
  refine g_aload_n O dX12_isDigit_0 0 rfl rfl ?_
  refine g_iload_n O dX12_isDigit_1 1 rfl rfl ?_
  obtain ⟨q1, hq1, hf⟩ := k_obd hN hf
  refine g_callV (rest := []) O dX12_isDigit_2 (ct_X12_here hZ h0 hq1) vx_RX12_118 h0 rfl rfl (by decide) (Nat.le_of_ble_eq_true rfl) (fun hp2 => ?_)
  change G Z C σ 5 [(0, .ref (za Z i0)), (1, .int p1), (2, .int p2)] [.int q1]
  refine g_bipush O dX12_isDigit_5 (48 : Int32) (by decide) ?_
  refine g_bipush O dX12_isDigit_7 (48 : Int32) (by decide) ?_
  refine g_iload_n O dX12_isDigit_9 2 rfl rfl ?_
  refine g_iadd O dX12_isDigit_10 ?_
  obtain ⟨q3, hq3, hf⟩ := k_obd hN hf
  refine g_callS (rest := []) O dX12_isDigit_11 (ct_X12_isIn hZ  hq3) sx_RX12_64 rfl rfl (by decide) (Nat.le_of_ble_eq_true rfl) (fun hp4 => ?_)
  change G Z C σ 14 [(0, .ref (za Z i0)), (1, .int p1), (2, .int p2)] [.int q3]
  exact hR _ hf hp4 _ _ dX12_isDigit_14

set_option maxHeartbeats 4000000 in
set_option maxRecDepth 100000 in
theorem ct_X12_isBlank {Z : ZT} (hZ : ZOk Z) {σ : Mem} {p0 : Int32}  {r : Int32} (hf : fX12_isBlank σ p0 = some r) : Ct Z yX12_isBlank cX12_isBlank 1 (some .boolean) 0 0 [.int p0] σ (some (.int r)) (r = 0 ∨ r = 1) σ := by
  refine ct_z hZ (by decide +kernel) (Nat.le_of_ble_eq_true rfl) hf (fun C K O hN hR hf => ?_)
  have O : Ok Z C RX12 cX12_isBlank 1 0 0 := O
  change G Z C σ 0 [(0, .int p0)] []
  unfold fX12_isBlank at hf
  refine g_iload_n O dX12_isBlank_0 0 rfl rfl ?_
  refine g_bipush O dX12_isBlank_1 (32 : Int32) (by decide) ?_
  refine g_icmp_eq 12 O dX12_isBlank_3 (by decide) hf (fun c1 hf => ?_) (fun c1 hf => ?_)
  · refine g_iconst O dX12_isBlank_12 (1 : Int32) (by decide) ?_
    refine g_goto 17 O dX12_isBlank_13 (by decide) ?_
    exact hR _ hf (Or.inr rfl) _ _ dX12_isBlank_17
  · refine g_iload_n O dX12_isBlank_6 0 rfl rfl ?_
    refine g_bipush O dX12_isBlank_7 (10 : Int32) (by decide) ?_
    refine g_icmp_ne 16 O dX12_isBlank_9 (by decide) hf (fun c2 hf => ?_) (fun c2 hf => ?_)
    · refine g_iconst O dX12_isBlank_12 (1 : Int32) (by decide) ?_
      refine g_goto 17 O dX12_isBlank_13 (by decide) ?_
      exact hR _ hf (Or.inr rfl) _ _ dX12_isBlank_17
    · refine g_iconst O dX12_isBlank_16 (0 : Int32) (by decide) ?_
      exact hR _ hf (Or.inl rfl) _ _ dX12_isBlank_17

set_option maxHeartbeats 4000000 in
set_option maxRecDepth 100000 in
theorem ct_X12_readsWord {Z : ZT} (hZ : ZOk Z) {σ : Mem} {i0 : Nat} {p1 : Int32} (h0 : kn i0 = 12) {r : Mem} (hf : fX12_readsWord σ i0 p1 = some r) : Ct Z yX12_readsWord cX12_readsWord 4 none 2 44 [.ref (za Z i0), .int p1] σ none True r := by
  refine ct_v hZ (by decide +kernel) (Nat.le_of_ble_eq_true rfl) hf (fun C K O hN hR hf => ?_)
  have O : Ok Z C RX12 cX12_readsWord 4 2 44 := O
  change G Z C σ 0 [(0, .ref (za Z i0)), (1, .int p1)] []
  unfold fX12_readsWord at hf
  refine g_aload_n O dX12_readsWord_0 0 rfl rfl ?_
  refine g_getI O dX12_readsWord_1 fx_RX12_121 h0 ?_
  refine g_istore_n O dX12_readsWord_4 rfl (by decide) (fun y => [(2, .int y), (0, .ref (za Z i0)), (1, .int p1)]) (fun _ => rfl) hf (fun x1 hf => ?_)
  refine g_aload_n O dX12_readsWord_5 1 rfl rfl ?_
  refine g_iload_n O dX12_readsWord_6 0 rfl rfl ?_
  obtain ⟨q2, hq2, hf⟩ := k_obd hN hf
  refine g_callV (rest := []) O dX12_readsWord_7 (ct_X12_here hZ h0 hq2) vx_RX12_118 h0 rfl rfl (by decide) (Nat.le_of_ble_eq_true rfl) (fun hp3 => ?_)
  change G Z C σ 10 [(2, .int x1), (0, .ref (za Z i0)), (1, .int p1)] [.int q2]
  refine g_bipush O dX12_readsWord_10 (48 : Int32) (by decide) ?_
  refine g_isub O dX12_readsWord_12 ?_
  refine g_istore_n O dX12_readsWord_13 rfl (by decide) (fun y => [(3, .int y), (2, .int x1), (0, .ref (za Z i0)), (1, .int p1)]) (fun _ => rfl) hf (fun x4 hf => ?_)
  refine g_aload_n O dX12_readsWord_14 2 rfl rfl ?_
  refine g_dup O dX12_readsWord_15 rfl ?_
  refine g_getI O dX12_readsWord_16 fx_RX12_121 h0 ?_
  refine g_iconst O dX12_readsWord_19 (1 : Int32) (by decide) ?_
  refine g_iadd O dX12_readsWord_20 ?_
  refine g_putI O dX12_readsWord_21 fp_RX12_121 h0 hf (fun m5 hf => ?_)
  refine g_aload_n O dX12_readsWord_24 2 rfl rfl ?_
  refine g_aload_n O dX12_readsWord_25 2 rfl rfl ?_
  refine g_getI O dX12_readsWord_26 fx_RX12_121 h0 ?_
  refine g_bipush O dX12_readsWord_29 (9 : Int32) (by decide) ?_
  obtain ⟨q6, hq6, hf⟩ := k_obd hN hf
  refine g_callV (rest := []) O dX12_readsWord_31 (ct_X12_isDigit hZ h0 hq6) vx_RX12_124 h0 rfl rfl (by decide) (Nat.le_of_ble_eq_true rfl) (fun hp7 => ?_)
  change G Z C m5 34 [(3, .int x4), (2, .int x1), (0, .ref (za Z i0)), (1, .int p1)] [.int q6]
  refine g_jn (fun (y8 : Int32 × Mem) => G Z C y8.2 64 [(2, .int x1), (0, .ref (za Z i0)), (1, .int p1), (3, .int y8.1)] []) hf (fun y8 hf => ?_) (fun k8 hk8 hf => ?_)
  · refine g_aload_n O dX12_readsWord_64 1 rfl rfl ?_
    refine g_getR O dX12_readsWord_65 fx_RX12_9 h0 ?_
    refine g_iload_n O dX12_readsWord_68 2 rfl rfl ?_
    refine g_iconst O dX12_readsWord_69 (3 : Int32) (by decide) ?_
    refine g_iadd O dX12_readsWord_70 ?_
    refine g_iload_n O dX12_readsWord_71 3 rfl rfl ?_
    refine g_iast O hN dX12_readsWord_72 (kf_12_0 h0) hf (fun m9 hf => ?_)
    refine g_aload_n O dX12_readsWord_73 1 rfl rfl ?_
    refine g_iload_n O dX12_readsWord_74 3 rfl rfl ?_
    obtain ⟨q10, hq10, hf⟩ := k_obd hN hf
    refine g_callV (rest := []) O dX12_readsWord_75 (ct_X12_isWord hZ h0 hq10) vx_RX12_98 h0 rfl rfl (by decide) (Nat.le_of_ble_eq_true rfl) (fun hp11 => ?_)
    change G Z C m9 78 [(2, .int x1), (0, .ref (za Z i0)), (1, .int p1), (3, .int y8.1)] [.int q10]
    refine g_jn (fun (y12 : Unit) => G Z C m9 89 [(2, .int x1), (0, .ref (za Z i0))] []) hf (fun y12 hf => ?_) (fun k12 hk12 hf => ?_)
    · refine g_aload_n O dX12_readsWord_89 1 rfl rfl ?_
      refine g_iload_n O dX12_readsWord_90 0 rfl rfl ?_
      refine g_putI O dX12_readsWord_91 fp_RX12_127 h0 hf (fun m13 hf => ?_)
      exact hR _ hf _ _ dX12_readsWord_94
    · skip
      refine g_if_eq 89 O dX12_readsWord_78 (by decide) hf (fun c14 hf => ?_) (fun c14 hf => ?_)
      · refine g_sub [0, 1] rfl ?_
        exact hk12 _ hf
      · refine g_aload_n O dX12_readsWord_81 1 rfl rfl ?_
        refine g_iload_n O dX12_readsWord_82 3 rfl rfl ?_
        obtain ⟨q15, hq15, hf⟩ := k_obd hN hf
        refine g_callV (rest := []) O dX12_readsWord_83 (ct_X12_kind hZ h0 hq15) vx_RX12_101 h0 rfl rfl (by decide) (Nat.le_of_ble_eq_true rfl) (fun hp16 => ?_)
        change G Z C m9 86 [(2, .int x1), (0, .ref (za Z i0)), (1, .int p1), (3, .int y8.1)] [.int q15]
        refine g_if_eq 94 O dX12_readsWord_86 (by decide) hf (fun c17 hf => ?_) (fun c17 hf => ?_)
        · exact hR _ hf _ _ dX12_readsWord_94
        · refine g_sub [0, 1] rfl ?_
          exact hk12 _ hf
  · skip
    refine g_if_eq 64 O dX12_readsWord_34 (by decide) hf (fun c18 hf => ?_) (fun c18 hf => ?_)
    · refine g_sub [1, 2, 3, 0] rfl ?_
      exact hk8 _ hf
    · refine g_bipush O dX12_readsWord_37 (10 : Int32) (by decide) ?_
      refine g_iload_n O dX12_readsWord_39 0 rfl rfl ?_
      refine g_imul O dX12_readsWord_40 ?_
      refine g_aload_n O dX12_readsWord_41 2 rfl rfl ?_
      refine g_aload_n O dX12_readsWord_42 2 rfl rfl ?_
      refine g_getI O dX12_readsWord_43 fx_RX12_121 h0 ?_
      obtain ⟨q19, hq19, hf⟩ := k_obd hN hf
      refine g_callV (rest := [.int ((10 : Int32) * x4)]) O dX12_readsWord_46 (ct_X12_here hZ h0 hq19) vx_RX12_118 h0 rfl rfl (by decide) (Nat.le_of_ble_eq_true rfl) (fun hp20 => ?_)
      change G Z C m5 49 [(3, .int x4), (2, .int x1), (0, .ref (za Z i0)), (1, .int p1)] [.int q19, .int ((10 : Int32) * x4)]
      refine g_iadd O dX12_readsWord_49 ?_
      refine g_bipush O dX12_readsWord_50 (48 : Int32) (by decide) ?_
      refine g_isub O dX12_readsWord_52 ?_
      refine g_istore_n O dX12_readsWord_53 rfl (by decide) (fun y => [(3, .int y), (2, .int x1), (0, .ref (za Z i0)), (1, .int p1)]) (fun _ => rfl) hf (fun x21 hf => ?_)
      refine g_aload_n O dX12_readsWord_54 2 rfl rfl ?_
      refine g_dup O dX12_readsWord_55 rfl ?_
      refine g_getI O dX12_readsWord_56 fx_RX12_121 h0 ?_
      refine g_iconst O dX12_readsWord_59 (1 : Int32) (by decide) ?_
      refine g_iadd O dX12_readsWord_60 ?_
      refine g_putI O dX12_readsWord_61 fp_RX12_121 h0 hf (fun m22 hf => ?_)
      refine g_sub [1, 2, 3, 0] rfl ?_
      exact hk8 _ hf

set_option maxHeartbeats 4000000 in
set_option maxRecDepth 100000 in
theorem ct_X12_reads {Z : ZT} (hZ : ZOk Z) {σ : Mem} {i0 : Nat} {p1 : Int32} {p2 : Int32} {p3 : Int32} (h0 : kn i0 = 12) {r : Mem} (hf : fX12_reads σ i0 p1 p2 p3 = some r) : Ct Z yX12_reads cX12_reads 5 none 3 67 [.ref (za Z i0), .int p1, .int p2, .int p3] σ none True r := by
  refine ct_v hZ (by decide +kernel) (Nat.le_of_ble_eq_true rfl) hf (fun C K O hN hR hf => ?_)
  have O : Ok Z C RX12 cX12_reads 5 3 67 := O
  change G Z C σ 0 [(0, .ref (za Z i0)), (1, .int p1), (2, .int p2), (3, .int p3)] []
  unfold fX12_reads at hf
  refine g_aload_n O dX12_reads_0 0 rfl rfl ?_
  refine g_iload_n O dX12_reads_1 2 rfl rfl ?_
  obtain ⟨q1, hq1, hf⟩ := k_obd hN hf
  refine g_callV (rest := []) O dX12_reads_2 (ct_X12_here hZ h0 hq1) vx_RX12_118 h0 rfl rfl (by decide) (Nat.le_of_ble_eq_true rfl) (fun hp2 => ?_)
  change G Z C σ 5 [(0, .ref (za Z i0)), (1, .int p1), (2, .int p2), (3, .int p3)] [.int q1]
  refine g_istoreP O dX12_reads_5 (by decide) [(4, .int q1), (0, .ref (za Z i0)), (1, .int p1), (2, .int p2), (3, .int p3)] rfl ?_
  refine g_aload_n O dX12_reads_7 1 rfl rfl ?_
  refine g_getR O dX12_reads_8 fx_RX12_9 h0 ?_
  refine g_iload_n O dX12_reads_11 2 rfl rfl ?_
  refine g_iload O dX12_reads_12 0 rfl ?_
  refine g_iast O hN dX12_reads_14 (kf_12_0 h0) hf (fun m3 hf => ?_)
  refine g_aload_n O dX12_reads_15 1 rfl rfl ?_
  refine g_getR O dX12_reads_16 fx_RX12_9 h0 ?_
  refine g_iload_n O dX12_reads_19 2 rfl rfl ?_
  refine g_iconst O dX12_reads_20 (1 : Int32) (by decide) ?_
  refine g_iadd O dX12_reads_21 ?_
  refine g_iconst O dX12_reads_22 (-1 : Int32) (by decide) ?_
  refine g_iast O hN dX12_reads_23 (kf_12_0 h0) hf (fun m4 hf => ?_)
  refine g_aload_n O dX12_reads_24 1 rfl rfl ?_
  refine g_getR O dX12_reads_25 fx_RX12_9 h0 ?_
  refine g_iload_n O dX12_reads_28 2 rfl rfl ?_
  refine g_iconst O dX12_reads_29 (2 : Int32) (by decide) ?_
  refine g_iadd O dX12_reads_30 ?_
  refine g_iconst O dX12_reads_31 (-1 : Int32) (by decide) ?_
  refine g_iast O hN dX12_reads_32 (kf_12_0 h0) hf (fun m5 hf => ?_)
  refine g_aload_n O dX12_reads_33 1 rfl rfl ?_
  refine g_getR O dX12_reads_34 fx_RX12_9 h0 ?_
  refine g_iload_n O dX12_reads_37 2 rfl rfl ?_
  refine g_iconst O dX12_reads_38 (3 : Int32) (by decide) ?_
  refine g_iadd O dX12_reads_39 ?_
  refine g_iconst O dX12_reads_40 (-1 : Int32) (by decide) ?_
  refine g_iast O hN dX12_reads_41 (kf_12_0 h0) hf (fun m6 hf => ?_)
  refine g_aload_n O dX12_reads_42 1 rfl rfl ?_
  refine g_iload_n O dX12_reads_43 3 rfl rfl ?_
  refine g_iconst O dX12_reads_44 (1 : Int32) (by decide) ?_
  refine g_iadd O dX12_reads_45 ?_
  refine g_putI O dX12_reads_46 fp_RX12_121 h0 hf (fun m7 hf => ?_)
  refine g_iload O dX12_reads_49 0 rfl ?_
  refine g_bipush O dX12_reads_51 (112 : Int32) (by decide) ?_
  refine g_icmp_ne 86 O dX12_reads_53 (by decide) hf (fun c8 hf => ?_) (fun c8 hf => ?_)
  · refine g_aload_n O dX12_reads_56 1 rfl rfl ?_
    refine g_aload_n O dX12_reads_57 1 rfl rfl ?_
    refine g_getI O dX12_reads_58 fx_RX12_121 h0 ?_
    refine g_bipush O dX12_reads_61 (9 : Int32) (by decide) ?_
    obtain ⟨q9, hq9, hf⟩ := k_obd hN hf
    refine g_callV (rest := []) O dX12_reads_63 (ct_X12_isDigit hZ h0 hq9) vx_RX12_124 h0 rfl rfl (by decide) (Nat.le_of_ble_eq_true rfl) (fun hp10 => ?_)
    change G Z C m7 66 [(4, .int q1), (0, .ref (za Z i0)), (1, .int p1), (2, .int p2), (3, .int p3)] [.int q9]
    refine g_if_ne 80 O dX12_reads_66 (by decide) hf (fun c11 hf => ?_) (fun c11 hf => ?_)
    · refine g_aload_n O dX12_reads_69 1 rfl rfl ?_
      refine g_aload_n O dX12_reads_70 1 rfl rfl ?_
      refine g_getI O dX12_reads_71 fx_RX12_121 h0 ?_
      refine g_putI O dX12_reads_74 fp_RX12_127 h0 hf (fun m12 hf => ?_)
      refine g_goto 85 O dX12_reads_77 (by decide) ?_
      exact hR _ hf _ _ dX12_reads_85
    · refine g_aload_n O dX12_reads_80 1 rfl rfl ?_
      refine g_iload_n O dX12_reads_81 2 rfl rfl ?_
      obtain ⟨q13, hq13, hf⟩ := k_obd hN hf
      refine g_callV (rest := []) O dX12_reads_82 (ct_X12_readsWord hZ h0 hq13) vx_RX12_130 h0 rfl rfl (by decide) (Nat.le_of_ble_eq_true rfl) (fun hp14 => ?_)
      change G Z C q13 85 [(4, .int q1), (0, .ref (za Z i0)), (1, .int p1), (2, .int p2), (3, .int p3)] []
      exact hR _ hf _ _ dX12_reads_85
  · refine g_aload_n O dX12_reads_86 1 rfl rfl ?_
    refine g_aload_n O dX12_reads_87 1 rfl rfl ?_
    refine g_getI O dX12_reads_88 fx_RX12_121 h0 ?_
    refine g_iconst O dX12_reads_91 (2 : Int32) (by decide) ?_
    obtain ⟨q15, hq15, hf⟩ := k_obd hN hf
    refine g_callV (rest := []) O dX12_reads_92 (ct_X12_isDigit hZ h0 hq15) vx_RX12_124 h0 rfl rfl (by decide) (Nat.le_of_ble_eq_true rfl) (fun hp16 => ?_)
    change G Z C m7 95 [(4, .int q1), (0, .ref (za Z i0)), (1, .int p1), (2, .int p2), (3, .int p3)] [.int q15]
    refine g_jn (fun (y17 : Unit) => G Z C m7 124 [(0, .ref (za Z i0))] []) hf (fun y17 hf => ?_) (fun k17 hk17 hf => ?_)
    · refine g_aload_n O dX12_reads_124 0 rfl rfl ?_
      refine g_aload_n O dX12_reads_125 0 rfl rfl ?_
      refine g_getI O dX12_reads_126 fx_RX12_121 h0 ?_
      refine g_putI O dX12_reads_129 fp_RX12_127 h0 hf (fun m18 hf => ?_)
      exact hR _ hf _ _ dX12_reads_132
    · skip
      refine g_if_eq 124 O dX12_reads_95 (by decide) hf (fun c19 hf => ?_) (fun c19 hf => ?_)
      · refine g_sub [1] rfl ?_
        exact hk17 _ hf
      · refine g_iload O dX12_reads_98 0 rfl ?_
        refine g_bipush O dX12_reads_100 (110 : Int32) (by decide) ?_
        refine g_jn (fun (y20 : Unit) => G Z C m7 133 [(4, .int q1), (0, .ref (za Z i0)), (1, .int p1)] []) hf (fun y20 hf => ?_) (fun k20 hk20 hf => ?_)
        · refine g_aload_n O dX12_reads_133 1 rfl rfl ?_
          refine g_getR O dX12_reads_134 fx_RX12_9 h0 ?_
          refine g_iload_n O dX12_reads_137 2 rfl rfl ?_
          refine g_iconst O dX12_reads_138 (1 : Int32) (by decide) ?_
          refine g_iadd O dX12_reads_139 ?_
          refine g_aload_n O dX12_reads_140 1 rfl rfl ?_
          refine g_aload_n O dX12_reads_141 1 rfl rfl ?_
          refine g_getI O dX12_reads_142 fx_RX12_121 h0 ?_
          obtain ⟨q21, hq21, hf⟩ := k_obd hN hf
          refine g_callV (rest := [.int (p1 + (1 : Int32)), .ref (za Z (i0 + 1))]) O dX12_reads_145 (ct_X12_here hZ h0 hq21) vx_RX12_118 h0 rfl rfl (by decide) (Nat.le_of_ble_eq_true rfl) (fun hp22 => ?_)
          change G Z C m7 148 [(4, .int q1), (0, .ref (za Z i0)), (1, .int p1)] [.int q21, .int (p1 + (1 : Int32)), .ref (za Z (i0 + 1))]
          refine g_bipush O dX12_reads_148 (48 : Int32) (by decide) ?_
          refine g_isub O dX12_reads_150 ?_
          refine g_iast O hN dX12_reads_151 (kf_12_0 h0) hf (fun m23 hf => ?_)
          refine g_aload_n O dX12_reads_152 1 rfl rfl ?_
          refine g_dup O dX12_reads_153 rfl ?_
          refine g_getI O dX12_reads_154 fx_RX12_121 h0 ?_
          refine g_iconst O dX12_reads_157 (1 : Int32) (by decide) ?_
          refine g_iadd O dX12_reads_158 ?_
          refine g_putI O dX12_reads_159 fp_RX12_121 h0 hf (fun m24 hf => ?_)
          refine g_iload O dX12_reads_162 0 rfl ?_
          refine g_bipush O dX12_reads_164 (118 : Int32) (by decide) ?_
          refine g_icmp_ne 170 O dX12_reads_166 (by decide) hf (fun c25 hf => ?_) (fun c25 hf => ?_)
          · exact hR _ hf _ _ dX12_reads_169
          · refine g_aload_n O dX12_reads_170 1 rfl rfl ?_
            refine g_aload_n O dX12_reads_171 1 rfl rfl ?_
            refine g_getI O dX12_reads_172 fx_RX12_121 h0 ?_
            refine g_iconst O dX12_reads_175 (3 : Int32) (by decide) ?_
            obtain ⟨q26, hq26, hf⟩ := k_obd hN hf
            refine g_callV (rest := []) O dX12_reads_176 (ct_X12_isDigit hZ h0 hq26) vx_RX12_124 h0 rfl rfl (by decide) (Nat.le_of_ble_eq_true rfl) (fun hp27 => ?_)
            change G Z C m24 179 [(4, .int q1), (0, .ref (za Z i0)), (1, .int p1)] [.int q26]
            refine g_if_ne 191 O dX12_reads_179 (by decide) hf (fun c28 hf => ?_) (fun c28 hf => ?_)
            · refine g_aload_n O dX12_reads_182 1 rfl rfl ?_
              refine g_aload_n O dX12_reads_183 1 rfl rfl ?_
              refine g_getI O dX12_reads_184 fx_RX12_121 h0 ?_
              refine g_putI O dX12_reads_187 fp_RX12_127 h0 hf (fun m29 hf => ?_)
              exact hR _ hf _ _ dX12_reads_190
            · refine g_aload_n O dX12_reads_191 1 rfl rfl ?_
              refine g_getR O dX12_reads_192 fx_RX12_9 h0 ?_
              refine g_iload_n O dX12_reads_195 2 rfl rfl ?_
              refine g_iconst O dX12_reads_196 (2 : Int32) (by decide) ?_
              refine g_iadd O dX12_reads_197 ?_
              refine g_aload_n O dX12_reads_198 1 rfl rfl ?_
              refine g_aload_n O dX12_reads_199 1 rfl rfl ?_
              refine g_getI O dX12_reads_200 fx_RX12_121 h0 ?_
              obtain ⟨q30, hq30, hf⟩ := k_obd hN hf
              refine g_callV (rest := [.int (p1 + (2 : Int32)), .ref (za Z (i0 + 1))]) O dX12_reads_203 (ct_X12_here hZ h0 hq30) vx_RX12_118 h0 rfl rfl (by decide) (Nat.le_of_ble_eq_true rfl) (fun hp31 => ?_)
              change G Z C m24 206 [(4, .int q1), (0, .ref (za Z i0)), (1, .int p1)] [.int q30, .int (p1 + (2 : Int32)), .ref (za Z (i0 + 1))]
              refine g_bipush O dX12_reads_206 (48 : Int32) (by decide) ?_
              refine g_isub O dX12_reads_208 ?_
              refine g_iast O hN dX12_reads_209 (kf_12_0 h0) hf (fun m32 hf => ?_)
              refine g_aload_n O dX12_reads_210 1 rfl rfl ?_
              refine g_dup O dX12_reads_211 rfl ?_
              refine g_getI O dX12_reads_212 fx_RX12_121 h0 ?_
              refine g_iconst O dX12_reads_215 (1 : Int32) (by decide) ?_
              refine g_iadd O dX12_reads_216 ?_
              refine g_putI O dX12_reads_217 fp_RX12_121 h0 hf (fun m33 hf => ?_)
              exact hR _ hf _ _ dX12_reads_220
        · skip
          refine g_icmp_ne 133 O dX12_reads_102 (by decide) hf (fun c34 hf => ?_) (fun c34 hf => ?_)
          · refine g_iload_n O dX12_reads_105 4 rfl rfl ?_
            refine g_aload_n O dX12_reads_106 1 rfl rfl ?_
            refine g_aload_n O dX12_reads_107 1 rfl rfl ?_
            refine g_getI O dX12_reads_108 fx_RX12_121 h0 ?_
            obtain ⟨q35, hq35, hf⟩ := k_obd hN hf
            refine g_callV (rest := [.int p3]) O dX12_reads_111 (ct_X12_here hZ h0 hq35) vx_RX12_118 h0 rfl rfl (by decide) (Nat.le_of_ble_eq_true rfl) (fun hp36 => ?_)
            change G Z C m7 114 [(4, .int q1), (0, .ref (za Z i0)), (1, .int p1), (2, .int p2), (3, .int p3)] [.int q35, .int p3]
            refine g_bipush O dX12_reads_114 (48 : Int32) (by decide) ?_
            refine g_isub O dX12_reads_116 ?_
            refine g_ishr O dX12_reads_117 ?_
            refine g_iconst O dX12_reads_118 (1 : Int32) (by decide) ?_
            refine g_iand O dX12_reads_119 ?_
            refine g_iconst O dX12_reads_120 (1 : Int32) (by decide) ?_
            refine g_icmp_ne 133 O dX12_reads_121 (by decide) hf (fun c37 hf => ?_) (fun c37 hf => ?_)
            · refine g_sub [1] rfl ?_
              exact hk17 _ hf
            · refine g_sub [0, 1, 2] rfl ?_
              exact hk20 _ hf
          · refine g_sub [0, 1, 2] rfl ?_
            exact hk20 _ hf

