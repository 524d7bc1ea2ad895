set_option maxHeartbeats 4000000 in
set_option maxRecDepth 100000 in
theorem ct_X12_sheet {Z : ZT} (hZ : ZOk Z) {σ : Mem} {i0 : Nat} {p1 : Int32} {p2 : Int32} {p3 : Int32} (h0 : kn i0 = 12) {r : (Int32 × Mem)} (hf : fX12_sheet σ i0 p1 p2 p3 = some r) : Ct Z yX12_sheet cX12_sheet 5 (some .int) 2 42 [.ref (za Z i0), .int p1, .int p2, .int p3] σ (some (.int r.1)) True r.2 := by
  refine ct_im hZ (by decide +kernel) (Nat.le_of_ble_eq_true rfl) hf (fun C K O hN hR hf => ?_)
  have O : Ok Z C RX12 cX12_sheet 5 2 42 := O
  change G Z C σ 0 [(0, .ref (za Z i0)), (1, .int p1), (2, .int p2), (3, .int p3)] []
  unfold fX12_sheet at hf
  refine g_iload_n O dX12_sheet_0 1 rfl rfl ?_
  obtain ⟨q1, hq1, hf⟩ := k_obd hN hf
  refine g_callS (rest := []) O dX12_sheet_1 (ct_X12_isSheet hZ  hq1) sx_RX12_257 rfl rfl (by decide) (Nat.le_of_ble_eq_true rfl) (fun hp2 => ?_)
  change G Z C σ 4 [(0, .ref (za Z i0)), (1, .int p1), (2, .int p2), (3, .int p3)] [.int q1]
  refine g_if_eq 26 O dX12_sheet_4 (by decide) hf (fun c3 hf => ?_) (fun c3 hf => ?_)
  · refine g_bipush O dX12_sheet_26 (-2 : Int32) (by decide) ?_
    exact hR _ _ hf _ _ dX12_sheet_28
  · refine g_iload_n O dX12_sheet_7 2 rfl rfl ?_
    refine g_iconst O dX12_sheet_8 (-1 : Int32) (by decide) ?_
    refine g_iconst O dX12_sheet_9 (1 : Int32) (by decide) ?_
    obtain ⟨q4, hq4, hf⟩ := k_obd hN hf
    refine g_callS (rest := []) O dX12_sheet_10 (ct_X12_isIn hZ  hq4) sx_RX12_64 rfl rfl (by decide) (Nat.le_of_ble_eq_true rfl) (fun hp5 => ?_)
    change G Z C σ 13 [(0, .ref (za Z i0)), (1, .int p1), (2, .int p2), (3, .int p3)] [.int q4]
    refine g_if_eq 26 O dX12_sheet_13 (by decide) hf (fun c6 hf => ?_) (fun c6 hf => ?_)
    · refine g_bipush O dX12_sheet_26 (-2 : Int32) (by decide) ?_
      exact hR _ _ hf _ _ dX12_sheet_28
    · refine g_iload_n O dX12_sheet_16 2 rfl rfl ?_
      refine g_jn (fun (y7 : Unit) => G Z C σ 29 [(0, .ref (za Z i0)), (1, .int p1), (2, .int p2), (3, .int p3)] []) hf (fun y7 hf => ?_) (fun k7 hk7 hf => ?_)
      · refine g_iload_n O dX12_sheet_29 2 rfl rfl ?_
        refine g_jn (fun (y8 : Unit) => G Z C σ 40 [(0, .ref (za Z i0)), (1, .int p1), (2, .int p2), (3, .int p3)] []) hf (fun y8 hf => ?_) (fun k8 hk8 hf => ?_)
        · refine g_aload_n O dX12_sheet_40 0 rfl rfl ?_
          refine g_getR O dX12_sheet_41 fx_RX12_52 h0 ?_
          refine g_iload_n O dX12_sheet_44 1 rfl rfl ?_
          refine g_iload_n O dX12_sheet_45 2 rfl rfl ?_
          refine g_iast O hN dX12_sheet_46 (kf_12_24 h0) hf (fun m9 hf => ?_)
          refine g_aload_n O dX12_sheet_47 0 rfl rfl ?_
          refine g_getR O dX12_sheet_48 fx_RX12_55 h0 ?_
          refine g_iload_n O dX12_sheet_51 1 rfl rfl ?_
          refine g_iload_n O dX12_sheet_52 2 rfl rfl ?_
          refine g_jn (fun (y10 : Int32) => G Z C m9 61 [(0, .ref (za Z i0)), (1, .int p1)] [.int y10, .int p1, .ref (za Z (i0 + 16))]) hf (fun y10 hf => ?_) (fun k10 hk10 hf => ?_)
          · refine g_iast O hN dX12_sheet_61 (kf_12_25 h0) hf (fun m11 hf => ?_)
            refine g_iconst O dX12_sheet_62 (0 : Int32) (by decide) ?_
            refine g_istoreP O dX12_sheet_63 (by decide) [(4, .int (0 : Int32)), (0, .ref (za Z i0)), (1, .int p1)] rfl ?_
            refine g_lp hN (fun (a12 : Int32 × Mem) => G Z C a12.2 65 [(4, .int a12.1), (0, .ref (za Z i0)), (1, .int p1)] []) hf (fun a12 _ hN12 hI12 hX12 hf => ?_)
            unfold sX12_sheet_65 at hf
            refine g_iload O dX12_sheet_65 0 rfl ?_
            refine g_aload_n O dX12_sheet_67 1 rfl rfl ?_
            refine g_getR O dX12_sheet_68 fx_RX12_55 h0 ?_
            refine g_iload_n O dX12_sheet_71 2 rfl rfl ?_
            refine g_iald O hN12 dX12_sheet_72 (kf_12_25 h0) hf (fun hf => ?_)
            refine g_icmp_ge 95 O dX12_sheet_73 (by decide) hf (fun c13 hf => ?_) (fun c13 hf => ?_)
            · have hf := hX12 _ hf
              refine g_iconst O dX12_sheet_95 (1 : Int32) (by decide) ?_
              exact hR _ _ hf _ _ dX12_sheet_96
            · refine g_aload_n O dX12_sheet_76 1 rfl rfl ?_
              refine g_getR O dX12_sheet_77 fx_RX12_58 h0 ?_
              refine g_bipush O dX12_sheet_80 (40 : Int32) (by decide) ?_
              refine g_iload_n O dX12_sheet_82 2 rfl rfl ?_
              refine g_imul O dX12_sheet_83 ?_
              refine g_iload O dX12_sheet_84 0 rfl ?_
              refine g_iadd O dX12_sheet_86 ?_
              refine g_iconst O dX12_sheet_87 (0 : Int32) (by decide) ?_
              refine g_iast O hN12 dX12_sheet_88 (kf_12_26 h0) hf (fun m14 hf => ?_)
              refine g_iinc O dX12_sheet_89 0 rfl (by decide) (1) (by decide) (fun y => [(4, .int y), (0, .ref (za Z i0)), (1, .int p1)]) (fun _ => rfl) hf (fun x15 hf => ?_)
              refine g_goto 65 O dX12_sheet_92 (by decide) ?_
              exact hI12 _ hf
          · skip
            refine g_if_ge 60 O dX12_sheet_53 (by decide) hf (fun c16 hf => ?_) (fun c16 hf => ?_)
            · refine g_iload_n O dX12_sheet_60 3 rfl rfl ?_
              refine g_sub [0, 1] rfl ?_
              exact hk10 _ hf
            · refine g_iconst O dX12_sheet_56 (0 : Int32) (by decide) ?_
              refine g_goto 61 O dX12_sheet_57 (by decide) ?_
              refine g_sub [0, 1] rfl ?_
              exact hk10 _ hf
        · skip
          refine g_if_lt 40 O dX12_sheet_30 (by decide) hf (fun c17 hf => ?_) (fun c17 hf => ?_)
          · exact hk8 _ hf
          · refine g_iload_n O dX12_sheet_33 3 rfl rfl ?_
            refine g_if_ge 40 O dX12_sheet_34 (by decide) hf (fun c18 hf => ?_) (fun c18 hf => ?_)
            · exact hk8 _ hf
            · refine g_bipush O dX12_sheet_37 (-14 : Int32) (by decide) ?_
              exact hR _ _ hf _ _ dX12_sheet_39
      · skip
        refine g_if_lt 29 O dX12_sheet_17 (by decide) hf (fun c19 hf => ?_) (fun c19 hf => ?_)
        · exact hk7 _ hf
        · refine g_iload_n O dX12_sheet_20 3 rfl rfl ?_
          refine g_bipush O dX12_sheet_21 (40 : Int32) (by decide) ?_
          refine g_icmp_le 29 O dX12_sheet_23 (by decide) hf (fun c20 hf => ?_) (fun c20 hf => ?_)
          · exact hk7 _ hf
          · refine g_bipush O dX12_sheet_26 (-2 : Int32) (by decide) ?_
            exact hR _ _ hf _ _ dX12_sheet_28

set_option maxHeartbeats 4000000 in
set_option maxRecDepth 100000 in
theorem ct_X12_put {Z : ZT} (hZ : ZOk Z) {σ : Mem} {i0 : Nat} {p1 : Int32} {p2 : Int32} {p3 : Int32} (h0 : kn i0 = 12) {r : (Int32 × Mem)} (hf : fX12_put σ i0 p1 p2 p3 = some r) : Ct Z yX12_put cX12_put 4 (some .int) 2 42 [.ref (za Z i0), .int p1, .int p2, .int p3] σ (some (.int r.1)) True r.2 := by
  refine ct_im hZ (by decide +kernel) (Nat.le_of_ble_eq_true rfl) hf (fun C K O hN hR hf => ?_)
  have O : Ok Z C RX12 cX12_put 4 2 42 := O
  change G Z C σ 0 [(0, .ref (za Z i0)), (1, .int p1), (2, .int p2), (3, .int p3)] []
  unfold fX12_put at hf
  refine g_iload_n O dX12_put_0 1 rfl rfl ?_
  obtain ⟨q1, hq1, hf⟩ := k_obd hN hf
  refine g_callS (rest := []) O dX12_put_1 (ct_X12_isSheet hZ  hq1) sx_RX12_257 rfl rfl (by decide) (Nat.le_of_ble_eq_true rfl) (fun hp2 => ?_)
  change G Z C σ 4 [(0, .ref (za Z i0)), (1, .int p1), (2, .int p2), (3, .int p3)] [.int q1]
  refine g_if_ne 10 O dX12_put_4 (by decide) hf (fun c3 hf => ?_) (fun c3 hf => ?_)
  · refine g_bipush O dX12_put_7 (-2 : Int32) (by decide) ?_
    exact hR _ _ hf _ _ dX12_put_9
  · refine g_aload_n O dX12_put_10 0 rfl rfl ?_
    refine g_getR O dX12_put_11 fx_RX12_52 h0 ?_
    refine g_iload_n O dX12_put_14 1 rfl rfl ?_
    refine g_iald O hN dX12_put_15 (kf_12_24 h0) hf (fun hf => ?_)
    refine g_if_ge 22 O dX12_put_16 (by decide) hf (fun c4 hf => ?_) (fun c4 hf => ?_)
    · refine g_iload_n O dX12_put_22 2 rfl rfl ?_
      refine g_iconst O dX12_put_23 (0 : Int32) (by decide) ?_
      refine g_aload_n O dX12_put_24 0 rfl rfl ?_
      refine g_getR O dX12_put_25 fx_RX12_55 h0 ?_
      refine g_iload_n O dX12_put_28 1 rfl rfl ?_
      refine g_iald O hN dX12_put_29 (kf_12_25 h0) hf (fun hf => ?_)
      refine g_iconst O dX12_put_30 (1 : Int32) (by decide) ?_
      refine g_isub O dX12_put_31 ?_
      obtain ⟨q5, hq5, hf⟩ := k_obd hN hf
      refine g_callS (rest := []) O dX12_put_32 (ct_X12_isIn hZ  hq5) sx_RX12_64 rfl rfl (by decide) (Nat.le_of_ble_eq_true rfl) (fun hp6 => ?_)
      change G Z C σ 35 [(0, .ref (za Z i0)), (1, .int p1), (2, .int p2), (3, .int p3)] [.int q5]
      refine g_if_ne 41 O dX12_put_35 (by decide) hf (fun c7 hf => ?_) (fun c7 hf => ?_)
      · refine g_bipush O dX12_put_38 (-12 : Int32) (by decide) ?_
        exact hR _ _ hf _ _ dX12_put_40
      · refine g_aload_n O dX12_put_41 0 rfl rfl ?_
        refine g_getR O dX12_put_42 fx_RX12_58 h0 ?_
        refine g_bipush O dX12_put_45 (40 : Int32) (by decide) ?_
        refine g_iload_n O dX12_put_47 1 rfl rfl ?_
        refine g_imul O dX12_put_48 ?_
        refine g_iload_n O dX12_put_49 2 rfl rfl ?_
        refine g_iadd O dX12_put_50 ?_
        refine g_aload_n O dX12_put_51 0 rfl rfl ?_
        refine g_getR O dX12_put_52 fx_RX12_52 h0 ?_
        refine g_iload_n O dX12_put_55 1 rfl rfl ?_
        refine g_iald O hN dX12_put_56 (kf_12_24 h0) hf (fun hf => ?_)
        refine g_jn (fun (y8 : Int32) => G Z C σ 66 [] [.int y8, .int (((40 : Int32) * p1) + p2), .ref (za Z (i0 + 17))]) hf (fun y8 hf => ?_) (fun k8 hk8 hf => ?_)
        · refine g_iast O hN dX12_put_66 (kf_12_26 h0) hf (fun m9 hf => ?_)
          refine g_iconst O dX12_put_67 (1 : Int32) (by decide) ?_
          exact hR _ _ hf _ _ dX12_put_68
        · skip
          refine g_if_ne 65 O dX12_put_57 (by decide) hf (fun c10 hf => ?_) (fun c10 hf => ?_)
          · refine g_iload_n O dX12_put_60 3 rfl rfl ?_
            refine g_i2s O dX12_put_61 ?_
            refine g_goto 66 O dX12_put_62 (by decide) ?_
            refine g_sub [] rfl ?_
            exact hk8 _ hf
          · refine g_iload_n O dX12_put_65 3 rfl rfl ?_
            refine g_sub [] rfl ?_
            exact hk8 _ hf
    · refine g_bipush O dX12_put_19 (-11 : Int32) (by decide) ?_
      exact hR _ _ hf _ _ dX12_put_21

set_option maxHeartbeats 4000000 in
set_option maxRecDepth 100000 in
theorem ct_X12_copy {Z : ZT} (hZ : ZOk Z) {σ : Mem} {i0 : Nat} {p1 : Int32} {p2 : Int32} {p3 : Int32} {p4 : Int32} {p5 : Int32} (h0 : kn i0 = 12) {r : (Int32 × Mem)} (hf : fX12_copy σ i0 p1 p2 p3 p4 p5 = some r) : Ct Z yX12_copy cX12_copy 7 (some .int) 2 42 [.ref (za Z i0), .int p1, .int p2, .int p3, .int p4, .int p5] σ (some (.int r.1)) True r.2 := by
  refine ct_im hZ (by decide +kernel) (Nat.le_of_ble_eq_true rfl) hf (fun C K O hN hR hf => ?_)
  have O : Ok Z C RX12 cX12_copy 7 2 42 := O
  change G Z C σ 0 [(0, .ref (za Z i0)), (1, .int p1), (2, .int p2), (3, .int p3), (4, .int p4), (5, .int p5)] []
  unfold fX12_copy at hf
  refine g_iload_n O dX12_copy_0 1 rfl rfl ?_
  obtain ⟨q1, hq1, hf⟩ := k_obd hN hf
  refine g_callS (rest := []) O dX12_copy_1 (ct_X12_isSheet hZ  hq1) sx_RX12_257 rfl rfl (by decide) (Nat.le_of_ble_eq_true rfl) (fun hp2 => ?_)
  change G Z C σ 4 [(0, .ref (za Z i0)), (1, .int p1), (2, .int p2), (3, .int p3), (4, .int p4), (5, .int p5)] [.int q1]
  refine g_if_eq 14 O dX12_copy_4 (by decide) hf (fun c3 hf => ?_) (fun c3 hf => ?_)
  · refine g_bipush O dX12_copy_14 (-2 : Int32) (by decide) ?_
    exact hR _ _ hf _ _ dX12_copy_16
  · refine g_iload_n O dX12_copy_7 3 rfl rfl ?_
    obtain ⟨q4, hq4, hf⟩ := k_obd hN hf
    refine g_callS (rest := []) O dX12_copy_8 (ct_X12_isSheet hZ  hq4) sx_RX12_257 rfl rfl (by decide) (Nat.le_of_ble_eq_true rfl) (fun hp5 => ?_)
    change G Z C σ 11 [(0, .ref (za Z i0)), (1, .int p1), (2, .int p2), (3, .int p3), (4, .int p4), (5, .int p5)] [.int q4]
    refine g_if_ne 17 O dX12_copy_11 (by decide) hf (fun c6 hf => ?_) (fun c6 hf => ?_)
    · refine g_bipush O dX12_copy_14 (-2 : Int32) (by decide) ?_
      exact hR _ _ hf _ _ dX12_copy_16
    · refine g_aload_n O dX12_copy_17 0 rfl rfl ?_
      refine g_getR O dX12_copy_18 fx_RX12_52 h0 ?_
      refine g_iload_n O dX12_copy_21 1 rfl rfl ?_
      refine g_iald O hN dX12_copy_22 (kf_12_24 h0) hf (fun hf => ?_)
      refine g_if_lt 35 O dX12_copy_23 (by decide) hf (fun c7 hf => ?_) (fun c7 hf => ?_)
      · refine g_bipush O dX12_copy_35 (-11 : Int32) (by decide) ?_
        exact hR _ _ hf _ _ dX12_copy_37
      · refine g_aload_n O dX12_copy_26 0 rfl rfl ?_
        refine g_getR O dX12_copy_27 fx_RX12_52 h0 ?_
        refine g_iload_n O dX12_copy_30 3 rfl rfl ?_
        refine g_iald O hN dX12_copy_31 (kf_12_24 h0) hf (fun hf => ?_)
        refine g_if_ge 38 O dX12_copy_32 (by decide) hf (fun c8 hf => ?_) (fun c8 hf => ?_)
        · refine g_aload_n O dX12_copy_38 0 rfl rfl ?_
          refine g_getR O dX12_copy_39 fx_RX12_52 h0 ?_
          refine g_iload_n O dX12_copy_42 1 rfl rfl ?_
          refine g_iald O hN dX12_copy_43 (kf_12_24 h0) hf (fun hf => ?_)
          refine g_aload_n O dX12_copy_44 0 rfl rfl ?_
          refine g_getR O dX12_copy_45 fx_RX12_52 h0 ?_
          refine g_iload_n O dX12_copy_48 3 rfl rfl ?_
          refine g_iald O hN dX12_copy_49 (kf_12_24 h0) hf (fun hf => ?_)
          refine g_icmp_eq 56 O dX12_copy_50 (by decide) hf (fun c9 hf => ?_) (fun c9 hf => ?_)
          · refine g_iload O dX12_copy_56 5 rfl ?_
            refine g_if_lt 97 O dX12_copy_58 (by decide) hf (fun c10 hf => ?_) (fun c10 hf => ?_)
            · refine g_bipush O dX12_copy_97 (-12 : Int32) (by decide) ?_
              exact hR _ _ hf _ _ dX12_copy_99
            · refine g_iload_n O dX12_copy_61 2 rfl rfl ?_
              refine g_if_lt 97 O dX12_copy_62 (by decide) hf (fun c11 hf => ?_) (fun c11 hf => ?_)
              · refine g_bipush O dX12_copy_97 (-12 : Int32) (by decide) ?_
                exact hR _ _ hf _ _ dX12_copy_99
              · refine g_iload O dX12_copy_65 4 rfl ?_
                refine g_if_lt 97 O dX12_copy_67 (by decide) hf (fun c12 hf => ?_) (fun c12 hf => ?_)
                · refine g_bipush O dX12_copy_97 (-12 : Int32) (by decide) ?_
                  exact hR _ _ hf _ _ dX12_copy_99
                · refine g_iload_n O dX12_copy_70 2 rfl rfl ?_
                  refine g_aload_n O dX12_copy_71 0 rfl rfl ?_
                  refine g_getR O dX12_copy_72 fx_RX12_55 h0 ?_
                  refine g_iload_n O dX12_copy_75 1 rfl rfl ?_
                  refine g_iald O hN dX12_copy_76 (kf_12_25 h0) hf (fun hf => ?_)
                  refine g_iload O dX12_copy_77 5 rfl ?_
                  refine g_isub O dX12_copy_79 ?_
                  refine g_icmp_gt 97 O dX12_copy_80 (by decide) hf (fun c13 hf => ?_) (fun c13 hf => ?_)
                  · refine g_bipush O dX12_copy_97 (-12 : Int32) (by decide) ?_
                    exact hR _ _ hf _ _ dX12_copy_99
                  · refine g_iload O dX12_copy_83 4 rfl ?_
                    refine g_aload_n O dX12_copy_85 0 rfl rfl ?_
                    refine g_getR O dX12_copy_86 fx_RX12_55 h0 ?_
                    refine g_iload_n O dX12_copy_89 3 rfl rfl ?_
                    refine g_iald O hN dX12_copy_90 (kf_12_25 h0) hf (fun hf => ?_)
                    refine g_iload O dX12_copy_91 5 rfl ?_
                    refine g_isub O dX12_copy_93 ?_
                    refine g_icmp_le 100 O dX12_copy_94 (by decide) hf (fun c14 hf => ?_) (fun c14 hf => ?_)
                    · refine g_iconst O dX12_copy_100 (0 : Int32) (by decide) ?_
                      refine g_istoreP O dX12_copy_101 (by decide) [(6, .int (0 : Int32)), (0, .ref (za Z i0)), (1, .int p1), (2, .int p2), (3, .int p3), (4, .int p4), (5, .int p5)] rfl ?_
                      refine g_lp hN (fun (a15 : Int32 × Mem) => G Z C a15.2 103 [(6, .int a15.1), (0, .ref (za Z i0)), (1, .int p1), (2, .int p2), (3, .int p3), (4, .int p4), (5, .int p5)] []) hf (fun a15 _ hN15 hI15 hX15 hf => ?_)
                      unfold sX12_copy_103 at hf
                      refine g_iload O dX12_copy_103 0 rfl ?_
                      refine g_iload O dX12_copy_105 6 rfl ?_
                      refine g_icmp_ge 137 O dX12_copy_107 (by decide) hf (fun c16 hf => ?_) (fun c16 hf => ?_)
                      · have hf := hX15 _ hf
                        refine g_iconst O dX12_copy_137 (0 : Int32) (by decide) ?_
                        refine g_istoreP O dX12_copy_138 (by decide) [(6, .int (0 : Int32)), (0, .ref (za Z i0)), (1, .int p1), (2, .int p2), (3, .int p3), (4, .int p4), (5, .int p5)] rfl ?_
                        refine g_sub [0, 1, 4, 5, 6] rfl ?_
                        refine g_lp hN (fun (a17 : Int32 × Mem) => G Z C a17.2 140 [(6, .int a17.1), (0, .ref (za Z i0)), (3, .int p3), (4, .int p4), (5, .int p5)] []) hf (fun a17 _ hN17 hI17 hX17 hf => ?_)
                        unfold sX12_copy_140 at hf
                        refine g_iload O dX12_copy_140 0 rfl ?_
                        refine g_iload O dX12_copy_142 4 rfl ?_
                        refine g_icmp_ge 175 O dX12_copy_144 (by decide) hf (fun c18 hf => ?_) (fun c18 hf => ?_)
                        · have hf := hX17 _ hf
                          refine g_iload O dX12_copy_175 4 rfl ?_
                          exact hR _ _ hf _ _ dX12_copy_177
                        · refine g_aload_n O dX12_copy_147 1 rfl rfl ?_
                          refine g_getR O dX12_copy_148 fx_RX12_58 h0 ?_
                          refine g_bipush O dX12_copy_151 (40 : Int32) (by decide) ?_
                          refine g_iload_n O dX12_copy_153 2 rfl rfl ?_
                          refine g_imul O dX12_copy_154 ?_
                          refine g_iload O dX12_copy_155 3 rfl ?_
                          refine g_iadd O dX12_copy_157 ?_
                          refine g_iload O dX12_copy_158 0 rfl ?_
                          refine g_iadd O dX12_copy_160 ?_
                          refine g_aload_n O dX12_copy_161 1 rfl rfl ?_
                          refine g_getR O dX12_copy_162 fx_RX12_61 h0 ?_
                          refine g_iload O dX12_copy_165 0 rfl ?_
                          refine g_iald O hN17 dX12_copy_167 (kf_12_27 h0) hf (fun hf => ?_)
                          refine g_iast O hN17 dX12_copy_168 (kf_12_26 h0) hf (fun m19 hf => ?_)
                          refine g_iinc O dX12_copy_169 0 rfl (by decide) (1) (by decide) (fun y => [(6, .int y), (0, .ref (za Z i0)), (3, .int p3), (4, .int p4), (5, .int p5)]) (fun _ => rfl) hf (fun x20 hf => ?_)
                          refine g_goto 140 O dX12_copy_172 (by decide) ?_
                          exact hI17 _ hf
                      · refine g_aload_n O dX12_copy_110 1 rfl rfl ?_
                        refine g_getR O dX12_copy_111 fx_RX12_61 h0 ?_
                        refine g_iload O dX12_copy_114 0 rfl ?_
                        refine g_aload_n O dX12_copy_116 1 rfl rfl ?_
                        refine g_getR O dX12_copy_117 fx_RX12_58 h0 ?_
                        refine g_bipush O dX12_copy_120 (40 : Int32) (by decide) ?_
                        refine g_iload_n O dX12_copy_122 2 rfl rfl ?_
                        refine g_imul O dX12_copy_123 ?_
                        refine g_iload_n O dX12_copy_124 3 rfl rfl ?_
                        refine g_iadd O dX12_copy_125 ?_
                        refine g_iload O dX12_copy_126 0 rfl ?_
                        refine g_iadd O dX12_copy_128 ?_
                        refine g_iald O hN15 dX12_copy_129 (kf_12_26 h0) hf (fun hf => ?_)
                        refine g_iast O hN15 dX12_copy_130 (kf_12_27 h0) hf (fun m21 hf => ?_)
                        refine g_iinc O dX12_copy_131 0 rfl (by decide) (1) (by decide) (fun y => [(6, .int y), (0, .ref (za Z i0)), (1, .int p1), (2, .int p2), (3, .int p3), (4, .int p4), (5, .int p5)]) (fun _ => rfl) hf (fun x22 hf => ?_)
                        refine g_goto 103 O dX12_copy_134 (by decide) ?_
                        exact hI15 _ hf
                    · refine g_bipush O dX12_copy_97 (-12 : Int32) (by decide) ?_
                      exact hR _ _ hf _ _ dX12_copy_99
          · refine g_bipush O dX12_copy_53 (-13 : Int32) (by decide) ?_
            exact hR _ _ hf _ _ dX12_copy_55
        · refine g_bipush O dX12_copy_35 (-11 : Int32) (by decide) ?_
          exact hR _ _ hf _ _ dX12_copy_37

