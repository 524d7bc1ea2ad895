set_option maxHeartbeats 4000000 in
set_option maxRecDepth 100000 in
theorem ct_X9_lay {Z : ZT} (hZ : ZOk Z) {σ : Mem} {i0 : Nat} {p1 : Int32} {p2 : Int32} (h0 : kn i0 = 9) {r : Mem} (hf : fX9_lay σ i0 p1 p2 = some r) : Ct Z yX9_lay cX9_lay 3 none 1 21 [.ref (za Z i0), .int p1, .int p2] σ none True r := by
  refine ct_v hZ (by decide +kernel) (Nat.le_of_ble_eq_true rfl) hf (fun C K O hN hR hf => ?_)
  have O : Ok Z C RX9 cX9_lay 3 1 21 := O
  change G Z C σ 0 [(0, .ref (za Z i0)), (1, .int p1), (2, .int p2)] []
  unfold fX9_lay at hf
  refine g_aload_n O dX9_lay_0 0 rfl rfl ?_
  refine g_iload_n O dX9_lay_1 1 rfl rfl ?_
  obtain ⟨q1, hq1, hf⟩ := k_obd hN hf
  refine g_callV (rest := []) O dX9_lay_2 (ct_X9_has hZ h0 hq1) vx_RX9_34 h0 rfl rfl (by decide) (Nat.le_of_ble_eq_true rfl) (fun hp2 => ?_)
  change G Z C σ 5 [(0, .ref (za Z i0)), (1, .int p1), (2, .int p2)] [.int q1]
  refine g_if_eq 15 O dX9_lay_5 (by decide) hf (fun c3 hf => ?_) (fun c3 hf => ?_)
  · exact hR _ hf _ _ dX9_lay_15
  · refine g_aload_n O dX9_lay_8 0 rfl rfl ?_
    refine g_getR O dX9_lay_9 fx_RX9_15 h0 ?_
    refine g_iload_n O dX9_lay_12 1 rfl rfl ?_
    refine g_iload_n O dX9_lay_13 2 rfl rfl ?_
    refine g_iast O hN dX9_lay_14 (kf_9_2 h0) hf (fun m4 hf => ?_)
    exact hR _ hf _ _ dX9_lay_15

set_option maxHeartbeats 4000000 in
set_option maxRecDepth 100000 in
theorem ct_X11_areBytes {Z : ZT} (hZ : ZOk Z) {σ : Mem} {p0 : Int32} {p1 : Int32} {p2 : Int32} {p3 : Int32} {p4 : Int32}  {r : Int32} (hf : fX11_areBytes σ p0 p1 p2 p3 p4 = some r) : Ct Z yX11_areBytes cX11_areBytes 5 (some .boolean) 0 0 [.int p0, .int p1, .int p2, .int p3, .int p4] σ (some (.int r)) (r = 0 ∨ r = 1) σ := by
  refine ct_z hZ (by decide +kernel) (Nat.le_of_ble_eq_true rfl) hf (fun C K O hN hR hf => ?_)
  have O : Ok Z C RX11 cX11_areBytes 5 0 0 := O
  change G Z C σ 0 [(0, .int p0), (1, .int p1), (2, .int p2), (3, .int p3), (4, .int p4)] []
  unfold fX11_areBytes at hf
  refine g_iload_n O dX11_areBytes_0 0 rfl rfl ?_
  refine g_iload_n O dX11_areBytes_1 1 rfl rfl ?_
  refine g_ior O dX11_areBytes_2 ?_
  refine g_iload_n O dX11_areBytes_3 2 rfl rfl ?_
  refine g_ior O dX11_areBytes_4 ?_
  refine g_iload_n O dX11_areBytes_5 3 rfl rfl ?_
  refine g_ior O dX11_areBytes_6 ?_
  refine g_iload O dX11_areBytes_7 4 rfl ?_
  refine g_ior O dX11_areBytes_9 ?_
  refine g_sipush O dX11_areBytes_10 (-256 : Int32) (by decide) ?_
  refine g_iand O dX11_areBytes_13 ?_
  refine g_if_ne 21 O dX11_areBytes_14 (by decide) hf (fun c1 hf => ?_) (fun c1 hf => ?_)
  · refine g_iconst O dX11_areBytes_17 (1 : Int32) (by decide) ?_
    refine g_goto 22 O dX11_areBytes_18 (by decide) ?_
    exact hR _ hf (Or.inr rfl) _ _ dX11_areBytes_22
  · refine g_iconst O dX11_areBytes_21 (0 : Int32) (by decide) ?_
    exact hR _ hf (Or.inl rfl) _ _ dX11_areBytes_22

set_option maxHeartbeats 4000000 in
set_option maxRecDepth 100000 in
theorem ct_X11_feed {Z : ZT} (hZ : ZOk Z) {σ : Mem} {i0 : Nat} {p1 : Int32} {p2 : Int32} {p3 : Int32} {p4 : Int32} {p5 : Int32} {p6 : Int32} (h0 : kn i0 = 11) {r : (Int32 × Mem)} (hf : fX11_feed σ i0 p1 p2 p3 p4 p5 p6 = some r) : Ct Z yX11_feed cX11_feed 8 (some .int) 1 24 [.ref (za Z i0), .int p1, .int p2, .int p3, .int p4, .int p5, .int p6] σ (some (.int r.1)) True r.2 := by
  refine ct_im hZ (by decide +kernel) (Nat.le_of_ble_eq_true rfl) hf (fun C K O hN hR hf => ?_)
  have O : Ok Z C RX11 cX11_feed 8 1 24 := O
  change G Z C σ 0 [(0, .ref (za Z i0)), (1, .int p1), (2, .int p2), (3, .int p3), (4, .int p4), (5, .int p5), (6, .int p6)] []
  unfold fX11_feed at hf
  refine g_iload_n O dX11_feed_0 1 rfl rfl ?_
  refine g_iconst O dX11_feed_1 (1 : Int32) (by decide) ?_
  refine g_icmp_lt 24 O dX11_feed_2 (by decide) hf (fun c1 hf => ?_) (fun c1 hf => ?_)
  · refine g_bipush O dX11_feed_24 (-2 : Int32) (by decide) ?_
    exact hR _ _ hf _ _ dX11_feed_26
  · refine g_iload_n O dX11_feed_5 1 rfl rfl ?_
    refine g_iconst O dX11_feed_6 (5 : Int32) (by decide) ?_
    refine g_icmp_gt 24 O dX11_feed_7 (by decide) hf (fun c2 hf => ?_) (fun c2 hf => ?_)
    · refine g_bipush O dX11_feed_24 (-2 : Int32) (by decide) ?_
      exact hR _ _ hf _ _ dX11_feed_26
    · refine g_iload_n O dX11_feed_10 2 rfl rfl ?_
      refine g_iload_n O dX11_feed_11 3 rfl rfl ?_
      refine g_iload O dX11_feed_12 4 rfl ?_
      refine g_iload O dX11_feed_14 5 rfl ?_
      refine g_iload O dX11_feed_16 6 rfl ?_
      obtain ⟨q3, hq3, hf⟩ := k_obd hN hf
      refine g_callS (rest := []) O dX11_feed_18 (ct_X11_areBytes hZ  hq3) sx_RX11_73 rfl rfl (by decide) (Nat.le_of_ble_eq_true rfl) (fun hp4 => ?_)
      change G Z C σ 21 [(0, .ref (za Z i0)), (1, .int p1), (2, .int p2), (3, .int p3), (4, .int p4), (5, .int p5), (6, .int p6)] [.int q3]
      refine g_if_ne 27 O dX11_feed_21 (by decide) hf (fun c5 hf => ?_) (fun c5 hf => ?_)
      · refine g_bipush O dX11_feed_24 (-2 : Int32) (by decide) ?_
        exact hR _ _ hf _ _ dX11_feed_26
      · refine g_aload_n O dX11_feed_27 0 rfl rfl ?_
        refine g_getR O dX11_feed_28 fx_RX11_14 h0 ?_
        refine g_getI O dX11_feed_31 fx_RX11_77 (kf_11_0 h0) ?_
        refine g_iload_n O dX11_feed_34 1 rfl rfl ?_
        refine g_iadd O dX11_feed_35 ?_
        refine g_bipush O dX11_feed_36 (50 : Int32) (by decide) ?_
        refine g_icmp_le 44 O dX11_feed_38 (by decide) hf (fun c6 hf => ?_) (fun c6 hf => ?_)
        · refine g_iconst O dX11_feed_44 (0 : Int32) (by decide) ?_
          refine g_istoreP O dX11_feed_45 (by decide) [(7, .int (0 : Int32)), (0, .ref (za Z i0)), (1, .int p1), (2, .int p2), (3, .int p3), (4, .int p4), (5, .int p5), (6, .int p6)] rfl ?_
          refine g_lp hN (fun (a7 : Int32 × Mem) => G Z C a7.2 47 [(7, .int a7.1), (0, .ref (za Z i0)), (1, .int p1), (2, .int p2), (3, .int p3), (4, .int p4), (5, .int p5), (6, .int p6)] []) hf (fun a7 _ hN7 hI7 hX7 hf => ?_)
          unfold sX11_feed_47 at hf
          refine g_iload O dX11_feed_47 0 rfl ?_
          refine g_iload_n O dX11_feed_49 2 rfl rfl ?_
          refine g_icmp_ge 109 O dX11_feed_50 (by decide) hf (fun c8 hf => ?_) (fun c8 hf => ?_)
          · have hf := hX7 _ hf
            refine g_aload_n O dX11_feed_109 1 rfl rfl ?_
            refine g_getR O dX11_feed_110 fx_RX11_14 h0 ?_
            refine g_getI O dX11_feed_113 fx_RX11_77 (kf_11_0 h0) ?_
            exact hR _ _ hf _ _ dX11_feed_116
          · refine g_aload_n O dX11_feed_53 1 rfl rfl ?_
            refine g_getR O dX11_feed_54 fx_RX11_14 h0 ?_
            refine g_iload O dX11_feed_57 0 rfl ?_
            refine g_jn (fun (y9 : Int32) => G Z C a7.2 100 [(7, .int a7.1), (0, .ref (za Z i0)), (1, .int p1), (2, .int p2), (3, .int p3), (4, .int p4), (5, .int p5), (6, .int p6)] [.int y9, .ref (za Z (i0 + 1))]) hf (fun y9 hf => ?_) (fun k9 hk9 hf => ?_)
            · obtain ⟨q10, hq10, hf⟩ := k_obd hN7 hf
              refine g_callV (rest := []) O dX11_feed_100 (ct_X5_add hZ (kf_11_0 h0) hq10) vx_RX11_81 (kf_11_0 h0) rfl rfl (by decide) (Nat.le_of_ble_eq_true rfl) (fun hp11 => ?_)
              change G Z C q10 103 [(7, .int a7.1), (0, .ref (za Z i0)), (1, .int p1), (2, .int p2), (3, .int p3), (4, .int p4), (5, .int p5), (6, .int p6)] []
              refine g_iinc O dX11_feed_103 0 rfl (by decide) (1) (by decide) (fun y => [(7, .int y), (0, .ref (za Z i0)), (1, .int p1), (2, .int p2), (3, .int p3), (4, .int p4), (5, .int p5), (6, .int p6)]) (fun _ => rfl) hf (fun x12 hf => ?_)
              refine g_goto 47 O dX11_feed_106 (by decide) ?_
              exact hI7 _ hf
            · skip
              refine g_if_ne 66 O dX11_feed_59 (by decide) hf (fun c13 hf => ?_) (fun c13 hf => ?_)
              · refine g_iload_n O dX11_feed_62 3 rfl rfl ?_
                refine g_goto 100 O dX11_feed_63 (by decide) ?_
                exact hk9 _ hf
              · refine g_iload O dX11_feed_66 0 rfl ?_
                refine g_iconst O dX11_feed_68 (1 : Int32) (by decide) ?_
                refine g_icmp_ne 76 O dX11_feed_69 (by decide) hf (fun c14 hf => ?_) (fun c14 hf => ?_)
                · refine g_iload_n O dX11_feed_72 4 rfl rfl ?_
                  refine g_goto 100 O dX11_feed_73 (by decide) ?_
                  exact hk9 _ hf
                · refine g_iload O dX11_feed_76 0 rfl ?_
                  refine g_iconst O dX11_feed_78 (2 : Int32) (by decide) ?_
                  refine g_icmp_ne 87 O dX11_feed_79 (by decide) hf (fun c15 hf => ?_) (fun c15 hf => ?_)
                  · refine g_iload O dX11_feed_82 5 rfl ?_
                    refine g_goto 100 O dX11_feed_84 (by decide) ?_
                    exact hk9 _ hf
                  · refine g_iload O dX11_feed_87 0 rfl ?_
                    refine g_iconst O dX11_feed_89 (3 : Int32) (by decide) ?_
                    refine g_icmp_ne 98 O dX11_feed_90 (by decide) hf (fun c16 hf => ?_) (fun c16 hf => ?_)
                    · refine g_iload O dX11_feed_93 6 rfl ?_
                      refine g_goto 100 O dX11_feed_95 (by decide) ?_
                      exact hk9 _ hf
                    · refine g_iload O dX11_feed_98 7 rfl ?_
                      exact hk9 _ hf
        · refine g_bipush O dX11_feed_41 (-4 : Int32) (by decide) ?_
          exact hR _ _ hf _ _ dX11_feed_43

set_option maxHeartbeats 4000000 in
set_option maxRecDepth 100000 in
theorem ct_X11_word {Z : ZT} (hZ : ZOk Z) {σ : Mem} {i0 : Nat} {p1 : Int32} {p2 : Int32} {p3 : Int32} (h0 : kn i0 = 11) {r : (Int32 × Mem)} (hf : fX11_word σ i0 p1 p2 p3 = some r) : Ct Z yX11_word cX11_word 6 (some .int) 4 109 [.ref (za Z i0), .int p1, .int p2, .int p3] σ (some (.int r.1)) True r.2 := by
  refine ct_im hZ (by decide +kernel) (Nat.le_of_ble_eq_true rfl) hf (fun C K O hN hR hf => ?_)
  have O : Ok Z C RX11 cX11_word 6 4 109 := O
  change G Z C σ 0 [(0, .ref (za Z i0)), (1, .int p1), (2, .int p2), (3, .int p3)] []
  unfold fX11_word at hf
  refine g_iload_n O dX11_word_0 1 rfl rfl ?_
  refine g_bipush O dX11_word_1 (6 : Int32) (by decide) ?_
  obtain ⟨q1, hq1, hf⟩ := k_obd hN hf
  refine g_callS (rest := []) O dX11_word_3 (ct_X11_isBelow hZ  hq1) sx_RX11_84 rfl rfl (by decide) (Nat.le_of_ble_eq_true rfl) (fun hp2 => ?_)
  change G Z C σ 6 [(0, .ref (za Z i0)), (1, .int p1), (2, .int p2), (3, .int p3)] [.int q1]
  refine g_if_eq 25 O dX11_word_6 (by decide) hf (fun c3 hf => ?_) (fun c3 hf => ?_)
  · refine g_bipush O dX11_word_25 (-2 : Int32) (by decide) ?_
    exact hR _ _ hf _ _ dX11_word_27
  · refine g_iload_n O dX11_word_9 2 rfl rfl ?_
    refine g_iconst O dX11_word_10 (4 : Int32) (by decide) ?_
    obtain ⟨q4, hq4, hf⟩ := k_obd hN hf
    refine g_callS (rest := []) O dX11_word_11 (ct_X11_isBelow hZ  hq4) sx_RX11_84 rfl rfl (by decide) (Nat.le_of_ble_eq_true rfl) (fun hp5 => ?_)
    change G Z C σ 14 [(0, .ref (za Z i0)), (1, .int p1), (2, .int p2), (3, .int p3)] [.int q4]
    refine g_if_eq 25 O dX11_word_14 (by decide) hf (fun c6 hf => ?_) (fun c6 hf => ?_)
    · refine g_bipush O dX11_word_25 (-2 : Int32) (by decide) ?_
      exact hR _ _ hf _ _ dX11_word_27
    · refine g_iload_n O dX11_word_17 3 rfl rfl ?_
      refine g_iconst O dX11_word_18 (3 : Int32) (by decide) ?_
      obtain ⟨q7, hq7, hf⟩ := k_obd hN hf
      refine g_callS (rest := []) O dX11_word_19 (ct_X11_isBelow hZ  hq7) sx_RX11_84 rfl rfl (by decide) (Nat.le_of_ble_eq_true rfl) (fun hp8 => ?_)
      change G Z C σ 22 [(0, .ref (za Z i0)), (1, .int p1), (2, .int p2), (3, .int p3)] [.int q7]
      refine g_if_ne 28 O dX11_word_22 (by decide) hf (fun c9 hf => ?_) (fun c9 hf => ?_)
      · refine g_bipush O dX11_word_25 (-2 : Int32) (by decide) ?_
        exact hR _ _ hf _ _ dX11_word_27
      · refine g_aload_n O dX11_word_28 0 rfl rfl ?_
        refine g_getR O dX11_word_29 fx_RX11_14 h0 ?_
        refine g_getI O dX11_word_32 fx_RX11_77 (kf_11_0 h0) ?_
        refine g_iconst O dX11_word_35 (1 : Int32) (by decide) ?_
        refine g_jn (fun (y10 : Int32) => G Z C σ 66 [(0, .ref (za Z i0)), (1, .int p1), (2, .int p2), (3, .int p3)] [.int y10]) hf (fun y10 hf => ?_) (fun k10 hk10 hf => ?_)
        · refine g_istoreP O dX11_word_66 (by decide) [(4, .int y10), (0, .ref (za Z i0)), (1, .int p1), (2, .int p2), (3, .int p3)] rfl ?_
          refine g_iload O dX11_word_68 0 rfl ?_
          refine g_jn (fun (y11 : Int32 × Mem) => G Z C y11.2 92 [(0, .ref (za Z i0))] [.int y11.1]) hf (fun y11 hf => ?_) (fun k11 hk11 hf => ?_)
          · refine g_istoreP O dX11_word_92 (by decide) [(5, .int y11.1), (0, .ref (za Z i0))] rfl ?_
            refine g_aload_n O dX11_word_94 1 rfl rfl ?_
            refine g_getR O dX11_word_95 fx_RX11_14 h0 ?_
            obtain ⟨q12, hq12, hf⟩ := k_obd hN hf
            refine g_callV (rest := []) O dX11_word_98 (ct_X5_clear hZ (kf_11_0 h0) hq12) vx_RX11_96 (kf_11_0 h0) rfl rfl (by decide) (Nat.le_of_ble_eq_true rfl) (fun hp13 => ?_)
            change G Z C q12 101 [(5, .int y11.1), (0, .ref (za Z i0))] []
            refine g_iload O dX11_word_101 0 rfl ?_
            exact hR _ _ hf _ _ dX11_word_103
          · skip
            refine g_if_eq 90 O dX11_word_70 (by decide) hf (fun c14 hf => ?_) (fun c14 hf => ?_)
            · refine g_bipush O dX11_word_90 (-3 : Int32) (by decide) ?_
              refine g_sub [1] rfl ?_
              exact hk11 _ hf
            · refine g_aload_n O dX11_word_73 1 rfl rfl ?_
              refine g_getR O dX11_word_74 fx_RX11_21 h0 ?_
              refine g_aload_n O dX11_word_77 1 rfl rfl ?_
              refine g_getR O dX11_word_78 fx_RX11_14 h0 ?_
              refine g_iload_n O dX11_word_81 2 rfl rfl ?_
              refine g_iload_n O dX11_word_82 3 rfl rfl ?_
              refine g_iload_n O dX11_word_83 4 rfl rfl ?_
              obtain ⟨q15, hq15, hf⟩ := k_obd hN hf
              refine g_callV (rest := []) O dX11_word_84 (ct_X0_addWord hZ (kf_11_1 h0) (kf_11_0 h0) hq15) vx_RX11_92 (kf_11_1 h0) rfl rfl (by decide) (Nat.le_of_ble_eq_true rfl) (fun hp16 => ?_)
              change G Z C q15.2 87 [(4, .int y10), (0, .ref (za Z i0)), (1, .int p1), (2, .int p2), (3, .int p3)] [.int q15.1]
              refine g_goto 92 O dX11_word_87 (by decide) ?_
              refine g_sub [1] rfl ?_
              exact hk11 _ hf
        · skip
          refine g_jn (fun (y17 : Unit) => G Z C σ 65 [(0, .ref (za Z i0)), (1, .int p1), (2, .int p2), (3, .int p3)] []) hf (fun y17 hf => ?_) (fun k17 hk17 hf => ?_)
          · refine g_iconst O dX11_word_65 (0 : Int32) (by decide) ?_
            exact hk10 _ hf
          · skip
            refine g_icmp_lt 65 O dX11_word_36 (by decide) hf (fun c18 hf => ?_) (fun c18 hf => ?_)
            · exact hk17 _ hf
            · refine g_aload_n O dX11_word_39 0 rfl rfl ?_
              refine g_getR O dX11_word_40 fx_RX11_14 h0 ?_
              refine g_getI O dX11_word_43 fx_RX11_77 (kf_11_0 h0) ?_
              refine g_bipush O dX11_word_46 (6 : Int32) (by decide) ?_
              refine g_icmp_gt 65 O dX11_word_48 (by decide) hf (fun c19 hf => ?_) (fun c19 hf => ?_)
              · exact hk17 _ hf
              · refine g_aload_n O dX11_word_51 0 rfl rfl ?_
                refine g_getR O dX11_word_52 fx_RX11_14 h0 ?_
                obtain ⟨q20, hq20, hf⟩ := k_obd hN hf
                refine g_callV (rest := []) O dX11_word_55 (ct_X5_isAllLetters hZ (kf_11_0 h0) hq20) vx_RX11_88 (kf_11_0 h0) rfl rfl (by decide) (Nat.le_of_ble_eq_true rfl) (fun hp21 => ?_)
                change G Z C σ 58 [(0, .ref (za Z i0)), (1, .int p1), (2, .int p2), (3, .int p3)] [.int q20]
                refine g_if_eq 65 O dX11_word_58 (by decide) hf (fun c22 hf => ?_) (fun c22 hf => ?_)
                · exact hk17 _ hf
                · refine g_iconst O dX11_word_61 (1 : Int32) (by decide) ?_
                  refine g_goto 66 O dX11_word_62 (by decide) ?_
                  exact hk10 _ hf

set_option maxHeartbeats 4000000 in
set_option maxRecDepth 100000 in
theorem ct_X11_ending {Z : ZT} (hZ : ZOk Z) {σ : Mem} {i0 : Nat} {p1 : Int32} {p2 : Int32} {p3 : Int32} (h0 : kn i0 = 11) {r : (Int32 × Mem)} (hf : fX11_ending σ i0 p1 p2 p3 = some r) : Ct Z yX11_ending cX11_ending 6 (some .int) 2 61 [.ref (za Z i0), .int p1, .int p2, .int p3] σ (some (.int r.1)) True r.2 := by
  refine ct_im hZ (by decide +kernel) (Nat.le_of_ble_eq_true rfl) hf (fun C K O hN hR hf => ?_)
  have O : Ok Z C RX11 cX11_ending 6 2 61 := O
  change G Z C σ 0 [(0, .ref (za Z i0)), (1, .int p1), (2, .int p2), (3, .int p3)] []
  unfold fX11_ending at hf
  refine g_aload_n O dX11_ending_0 0 rfl rfl ?_
  refine g_getR O dX11_ending_1 fx_RX11_21 h0 ?_
  refine g_iload_n O dX11_ending_4 1 rfl rfl ?_
  refine g_iload_n O dX11_ending_5 2 rfl rfl ?_
  refine g_iload_n O dX11_ending_6 3 rfl rfl ?_
  obtain ⟨q1, hq1, hf⟩ := k_obd hN hf
  refine g_callV (rest := []) O dX11_ending_7 (ct_X0_endingAt hZ (kf_11_1 h0) hq1) vx_RX11_99 (kf_11_1 h0) rfl rfl (by decide) (Nat.le_of_ble_eq_true rfl) (fun hp2 => ?_)
  refine k_ocs hf (fun he hf1 => ?_) (fun w3 he hf1 => ?_)
  · subst he
    have hf := hf1
    change G Z C σ 10 [(0, .ref (za Z i0)), (1, .int p1), (2, .int p2), (3, .int p3)] [.null]
    refine g_astoreN O dX11_ending_10 (by decide) [(4, .null), (0, .ref (za Z i0)), (1, .int p1), (2, .int p2), (3, .int p3)] rfl ?_
    refine g_aloadN O dX11_ending_12 0 rfl ?_
    refine g_ifnonnullN O dX11_ending_14 ?_
    refine g_bipush O dX11_ending_17 (-2 : Int32) (by decide) ?_
    exact hR _ _ hf _ _ dX11_ending_19
  · subst he
    have hf := hf1
    change G Z C σ 10 [(0, .ref (za Z i0)), (1, .int p1), (2, .int p2), (3, .int p3)] [.ref (za Z w3)]
    refine g_astoreP O dX11_ending_10 (by decide) [(4, .ref (za Z w3)), (0, .ref (za Z i0)), (1, .int p1), (2, .int p2), (3, .int p3)] rfl ?_
    refine g_aload O dX11_ending_12 0 rfl ?_
    refine g_ifnonnullR 20 O dX11_ending_14 (by decide) ?_
    refine g_bipush O dX11_ending_20 (-3 : Int32) (by decide) ?_
    refine g_istoreP O dX11_ending_22 (by decide) [(5, .int (-3 : Int32)), (4, .ref (za Z w3)), (0, .ref (za Z i0)), (1, .int p1), (2, .int p2), (3, .int p3)] rfl ?_
    refine g_aload_n O dX11_ending_24 2 rfl rfl ?_
    refine g_getR O dX11_ending_25 fx_RX11_14 h0 ?_
    refine g_getI O dX11_ending_28 fx_RX11_77 (kf_11_0 h0) ?_
    refine g_iconst O dX11_ending_31 (3 : Int32) (by decide) ?_
    refine g_jn (fun (y4 : Int32 × Mem) => G Z C y4.2 61 [(0, .ref (za Z i0)), (5, .int y4.1)] []) hf (fun y4 hf => ?_) (fun k4 hk4 hf => ?_)
    · refine g_aload_n O dX11_ending_61 0 rfl rfl ?_
      refine g_getR O dX11_ending_62 fx_RX11_14 h0 ?_
      obtain ⟨q5, hq5, hf⟩ := k_obd hN hf
      refine g_callV (rest := []) O dX11_ending_65 (ct_X5_clear hZ (kf_11_0 h0) hq5) vx_RX11_96 (kf_11_0 h0) rfl rfl (by decide) (Nat.le_of_ble_eq_true rfl) (fun hp6 => ?_)
      change G Z C q5 68 [(0, .ref (za Z i0)), (5, .int y4.1)] []
      refine g_iload O dX11_ending_68 1 rfl ?_
      exact hR _ _ hf _ _ dX11_ending_70
    · skip
      refine g_icmp_gt 61 O dX11_ending_32 (by decide) hf (fun c7 hf => ?_) (fun c7 hf => ?_)
      · refine g_sub [2, 0] rfl ?_
        exact hk4 _ hf
      · refine g_aload_n O dX11_ending_35 2 rfl rfl ?_
        refine g_getR O dX11_ending_36 fx_RX11_14 h0 ?_
        obtain ⟨q8, hq8, hf⟩ := k_obd hN hf
        refine g_callV (rest := []) O dX11_ending_39 (ct_X5_isAllLetters hZ (kf_11_0 h0) hq8) vx_RX11_88 (kf_11_0 h0) rfl rfl (by decide) (Nat.le_of_ble_eq_true rfl) (fun hp9 => ?_)
        change G Z C σ 42 [(5, .int (-3 : Int32)), (4, .ref (za Z w3)), (0, .ref (za Z i0)), (1, .int p1), (2, .int p2), (3, .int p3)] [.int q8]
        refine g_if_eq 61 O dX11_ending_42 (by decide) hf (fun c10 hf => ?_) (fun c10 hf => ?_)
        · refine g_sub [2, 0] rfl ?_
          exact hk4 _ hf
        · refine g_aload O dX11_ending_45 1 rfl ?_
          refine g_getI O dX11_ending_47 fx_RX11_77 (hp2 _ rfl) ?_
          refine g_istore O dX11_ending_50 (by decide) (fun y => [(5, .int y), (4, .ref (za Z w3)), (0, .ref (za Z i0)), (1, .int p1), (2, .int p2), (3, .int p3)]) (fun _ => rfl) hf (fun x11 hf => ?_)
          refine g_aload O dX11_ending_52 1 rfl ?_
          refine g_aload_n O dX11_ending_54 2 rfl rfl ?_
          refine g_getR O dX11_ending_55 fx_RX11_14 h0 ?_
          obtain ⟨q12, hq12, hf⟩ := k_obd hN hf
          refine g_callV (rest := []) O dX11_ending_58 (ct_X5_become hZ (hp2 _ rfl) (kf_11_0 h0) hq12) vx_RX11_103 (hp2 _ rfl) rfl rfl (by decide) (Nat.le_of_ble_eq_true rfl) (fun hp13 => ?_)
          change G Z C q12 61 [(5, .int x11), (4, .ref (za Z w3)), (0, .ref (za Z i0)), (1, .int p1), (2, .int p2), (3, .int p3)] []
          refine g_sub [2, 0] rfl ?_
          exact hk4 _ hf

set_option maxHeartbeats 4000000 in
set_option maxRecDepth 100000 in
theorem ct_X11_frame {Z : ZT} (hZ : ZOk Z) {σ : Mem} {i0 : Nat} (h0 : kn i0 = 11) {r : (Int32 × Mem)} (hf : fX11_frame σ i0 = some r) : Ct Z yX11_frame cX11_frame 2 (some .int) 5 117 [.ref (za Z i0)] σ (some (.int r.1)) True r.2 := by
  refine ct_im hZ (by decide +kernel) (Nat.le_of_ble_eq_true rfl) hf (fun C K O hN hR hf => ?_)
  have O : Ok Z C RX11 cX11_frame 2 5 117 := O
  change G Z C σ 0 [(0, .ref (za Z i0))] []
  unfold fX11_frame at hf
  refine g_aload_n O dX11_frame_0 0 rfl rfl ?_
  refine g_getR O dX11_frame_1 fx_RX11_31 h0 ?_
  refine g_aload_n O dX11_frame_4 0 rfl rfl ?_
  refine g_getR O dX11_frame_5 fx_RX11_21 h0 ?_
  refine g_aload_n O dX11_frame_8 0 rfl rfl ?_
  refine g_getR O dX11_frame_9 fx_RX11_14 h0 ?_
  obtain ⟨q1, hq1, hf⟩ := k_obd hN hf
  refine g_callV (rest := []) O dX11_frame_12 (ct_X4_read hZ (kf_11_4 h0) (kf_11_1 h0) (kf_11_0 h0) hq1) vx_RX11_107 (kf_11_4 h0) rfl rfl (by decide) (Nat.le_of_ble_eq_true rfl) (fun hp2 => ?_)
  change G Z C q1.2 15 [(0, .ref (za Z i0))] [.int q1.1]
  refine g_istore_nP O dX11_frame_15 rfl (by decide) [(1, .int q1.1), (0, .ref (za Z i0))] rfl ?_
  refine g_aload_n O dX11_frame_16 1 rfl rfl ?_
  refine g_getR O dX11_frame_17 fx_RX11_14 h0 ?_
  obtain ⟨q3, hq3, hf⟩ := k_obd hN hf
  refine g_callV (rest := []) O dX11_frame_20 (ct_X5_clear hZ (kf_11_0 h0) hq3) vx_RX11_96 (kf_11_0 h0) rfl rfl (by decide) (Nat.le_of_ble_eq_true rfl) (fun hp4 => ?_)
  change G Z C q3 23 [(1, .int q1.1), (0, .ref (za Z i0))] []
  refine g_iload_n O dX11_frame_23 0 rfl rfl ?_
  refine g_iconst O dX11_frame_24 (-1 : Int32) (by decide) ?_
  refine g_icmp_ne 45 O dX11_frame_25 (by decide) hf (fun c5 hf => ?_) (fun c5 hf => ?_)
  · refine g_aload_n O dX11_frame_28 1 rfl rfl ?_
    refine g_getR O dX11_frame_29 fx_RX11_21 h0 ?_
    refine g_aload_n O dX11_frame_32 1 rfl rfl ?_
    refine g_getR O dX11_frame_33 fx_RX11_31 h0 ?_
    refine g_getR O dX11_frame_36 fx_RX11_111 (kf_11_4 h0) ?_
    obtain ⟨q6, hq6, hf⟩ := k_obd hN hf
    refine g_callV (rest := []) O dX11_frame_39 (ct_X0_addFrame hZ (kf_11_1 h0) (kf_4_0 (kf_11_4 h0)) hq6) vx_RX11_115 (kf_11_1 h0) rfl rfl (by decide) (Nat.le_of_ble_eq_true rfl) (fun hp7 => ?_)
    change G Z C q6.2 42 [(1, .int q1.1), (0, .ref (za Z i0))] [.int q6.1]
    refine g_goto 49 O dX11_frame_42 (by decide) ?_
    exact hR _ _ hf _ _ dX11_frame_49
  · refine g_bipush O dX11_frame_45 (-100 : Int32) (by decide) ?_
    refine g_iload_n O dX11_frame_47 0 rfl rfl ?_
    refine g_isub O dX11_frame_48 ?_
    exact hR _ _ hf _ _ dX11_frame_49

set_option maxHeartbeats 4000000 in
set_option maxRecDepth 100000 in
theorem ct_X11_told {Z : ZT} (hZ : ZOk Z) {σ : Mem} {i0 : Nat} {p1 : Int32} {p2 : Int32} (h0 : kn i0 = 11) {r : Int32} (hf : fX11_told σ i0 p1 p2 = some r) : Ct Z yX11_told cX11_told 4 (some .int) 1 21 [.ref (za Z i0), .int p1, .int p2] σ (some (.int r)) True σ := by
  refine ct_i hZ (by decide +kernel) (Nat.le_of_ble_eq_true rfl) hf (fun C K O hN hR hf => ?_)
  have O : Ok Z C RX11 cX11_told 4 1 21 := O
  change G Z C σ 0 [(0, .ref (za Z i0)), (1, .int p1), (2, .int p2)] []
  unfold fX11_told at hf
  refine g_aload_n O dX11_told_0 0 rfl rfl ?_
  refine g_getR O dX11_told_1 fx_RX11_21 h0 ?_
  refine g_iload_n O dX11_told_4 1 rfl rfl ?_
  obtain ⟨q1, hq1, hf⟩ := k_obd hN hf
  refine g_callV (rest := []) O dX11_told_5 (ct_X0_wordAt hZ (kf_11_1 h0) hq1) vx_RX11_119 (kf_11_1 h0) rfl rfl (by decide) (Nat.le_of_ble_eq_true rfl) (fun hp2 => ?_)
  refine k_ocs hf (fun he hf1 => ?_) (fun w3 he hf1 => ?_)
  · subst he
    have hf := hf1
    change G Z C σ 8 [(0, .ref (za Z i0)), (1, .int p1), (2, .int p2)] [.null]
    refine g_astore_nN O dX11_told_8 rfl (by decide) [(3, .null), (0, .ref (za Z i0)), (1, .int p1), (2, .int p2)] rfl ?_
    refine g_aload_nN O dX11_told_9 0 rfl rfl ?_
    refine g_ifnonnullN O dX11_told_10 ?_
    refine g_bipush O dX11_told_13 (-2 : Int32) (by decide) ?_
    exact hR _ hf _ _ dX11_told_15
  · subst he
    have hf := hf1
    change G Z C σ 8 [(0, .ref (za Z i0)), (1, .int p1), (2, .int p2)] [.ref (za Z w3)]
    refine g_astore_nP O dX11_told_8 rfl (by decide) [(3, .ref (za Z w3)), (0, .ref (za Z i0)), (1, .int p1), (2, .int p2)] rfl ?_
    refine g_aload_n O dX11_told_9 0 rfl rfl ?_
    refine g_ifnonnullR 16 O dX11_told_10 (by decide) ?_
    refine g_iload_n O dX11_told_16 3 rfl rfl ?_
    refine k_if hf (fun c4 hf => ?_) (fun c4 hf => ?_)
    · refine g_tabIn (off := 31) 48 O dX11_told_17 c4 (by decide) (by decide) (by decide) (by decide) ?_
      refine g_aload_n O dX11_told_48 0 rfl rfl ?_
      refine g_getI O dX11_told_49 fx_RX11_123 (hp2 _ rfl) ?_
      exact hR _ hf _ _ dX11_told_52
    refine k_if hf (fun c5 hf => ?_) (fun c5 hf => ?_)
    · refine g_tabIn (off := 36) 53 O dX11_told_17 c5 (by decide) (by decide) (by decide) (by decide) ?_
      refine g_aload_n O dX11_told_53 0 rfl rfl ?_
      refine g_getI O dX11_told_54 fx_RX11_128 (hp2 _ rfl) ?_
      exact hR _ hf _ _ dX11_told_57
    refine k_if hf (fun c6 hf => ?_) (fun c6 hf => ?_)
    · refine g_tabIn (off := 41) 58 O dX11_told_17 c6 (by decide) (by decide) (by decide) (by decide) ?_
      refine g_aload_n O dX11_told_58 0 rfl rfl ?_
      refine g_getI O dX11_told_59 fx_RX11_131 (hp2 _ rfl) ?_
      exact hR _ hf _ _ dX11_told_62
    refine k_if hf (fun c7 hf => ?_) (fun c7 hf => ?_)
    · refine g_tabIn (off := 46) 63 O dX11_told_17 c7 (by decide) (by decide) (by decide) (by decide) ?_
      refine g_aload_n O dX11_told_63 0 rfl rfl ?_
      refine g_getR O dX11_told_64 fx_RX11_134 (hp2 _ rfl) ?_
      refine g_getI O dX11_told_67 fx_RX11_77 (kf_10_1 (hp2 _ rfl)) ?_
      exact hR _ hf _ _ dX11_told_70
    refine g_tabOut 71 O dX11_told_17 (by have h0 := ti_ne c4 (n := 0) (by decide); have h1 := ti_ne c5 (n := 1) (by decide); have h2 := ti_ne c6 (n := 2) (by decide); have h3 := ti_ne c7 (n := 3) (by decide); omega) (by decide) ?_
    refine g_bipush O dX11_told_71 (-2 : Int32) (by decide) ?_
    exact hR _ hf _ _ dX11_told_73

set_option maxHeartbeats 4000000 in
set_option maxRecDepth 100000 in
theorem ct_X11_taken {Z : ZT} (hZ : ZOk Z) {σ : Mem} {i0 : Nat} {p1 : Int32} {p2 : Int32} (h0 : kn i0 = 11) {r : (Int32 × Mem)} (hf : fX11_taken σ i0 p1 p2 = some r) : Ct Z yX11_taken cX11_taken 4 (some .int) 3 89 [.ref (za Z i0), .int p1, .int p2] σ (some (.int r.1)) True r.2 := by
  refine ct_im hZ (by decide +kernel) (Nat.le_of_ble_eq_true rfl) hf (fun C K O hN hR hf => ?_)
  have O : Ok Z C RX11 cX11_taken 4 3 89 := O
  change G Z C σ 0 [(0, .ref (za Z i0)), (1, .int p1), (2, .int p2)] []
  unfold fX11_taken at hf
  refine g_aload_n O dX11_taken_0 0 rfl rfl ?_
  refine g_getR O dX11_taken_1 fx_RX11_21 h0 ?_
  refine g_iload_n O dX11_taken_4 1 rfl rfl ?_
  obtain ⟨q1, hq1, hf⟩ := k_obd hN hf
  refine g_callV (rest := []) O dX11_taken_5 (ct_X0_wordAt hZ (kf_11_1 h0) hq1) vx_RX11_119 (kf_11_1 h0) rfl rfl (by decide) (Nat.le_of_ble_eq_true rfl) (fun hp2 => ?_)
  refine k_ocs hf (fun he hf1 => ?_) (fun w3 he hf1 => ?_)
  · subst he
    have hf := hf1
    change G Z C σ 8 [(0, .ref (za Z i0)), (1, .int p1), (2, .int p2)] [.null]
    refine g_astore_nN O dX11_taken_8 rfl (by decide) [(3, .null), (0, .ref (za Z i0)), (1, .int p1), (2, .int p2)] rfl ?_
    refine g_aload_nN O dX11_taken_9 0 rfl rfl ?_
    refine g_ifnullN 22 O dX11_taken_10 (by decide) ?_
    refine g_bipush O dX11_taken_22 (-2 : Int32) (by decide) ?_
    exact hR _ _ hf _ _ dX11_taken_24
  · subst he
    have hf := hf1
    change G Z C σ 8 [(0, .ref (za Z i0)), (1, .int p1), (2, .int p2)] [.ref (za Z w3)]
    refine g_astore_nP O dX11_taken_8 rfl (by decide) [(3, .ref (za Z w3)), (0, .ref (za Z i0)), (1, .int p1), (2, .int p2)] rfl ?_
    refine g_aload_n O dX11_taken_9 0 rfl rfl ?_
    refine g_ifnullR O dX11_taken_10 ?_
    refine g_iload_n O dX11_taken_13 3 rfl rfl ?_
    refine g_bipush O dX11_taken_14 (6 : Int32) (by decide) ?_
    obtain ⟨q4, hq4, hf⟩ := k_obd hN hf
    refine g_callS (rest := []) O dX11_taken_16 (ct_X11_isBelow hZ  hq4) sx_RX11_84 rfl rfl (by decide) (Nat.le_of_ble_eq_true rfl) (fun hp5 => ?_)
    change G Z C σ 19 [(3, .ref (za Z w3)), (0, .ref (za Z i0)), (1, .int p1), (2, .int p2)] [.int q4]
    refine g_if_ne 25 O dX11_taken_19 (by decide) hf (fun c6 hf => ?_) (fun c6 hf => ?_)
    · refine g_bipush O dX11_taken_22 (-2 : Int32) (by decide) ?_
      exact hR _ _ hf _ _ dX11_taken_24
    · refine g_aload_n O dX11_taken_25 0 rfl rfl ?_
      refine g_iload_n O dX11_taken_26 3 rfl rfl ?_
      obtain ⟨q7, hq7, hf⟩ := k_obd hN hf
      refine g_callV (rest := []) O dX11_taken_27 (ct_X10_isOf hZ (hp2 _ rfl) hq7) vx_RX11_137 (hp2 _ rfl) rfl rfl (by decide) (Nat.le_of_ble_eq_true rfl) (fun hp8 => ?_)
      change G Z C σ 30 [(3, .ref (za Z w3)), (0, .ref (za Z i0)), (1, .int p1), (2, .int p2)] [.int q7]
      refine g_if_ne 36 O dX11_taken_30 (by decide) hf (fun c9 hf => ?_) (fun c9 hf => ?_)
      · refine g_bipush O dX11_taken_33 (-13 : Int32) (by decide) ?_
        exact hR _ _ hf _ _ dX11_taken_35
      · refine g_aload_n O dX11_taken_36 1 rfl rfl ?_
        refine g_getR O dX11_taken_37 fx_RX11_21 h0 ?_
        refine g_aload_n O dX11_taken_40 0 rfl rfl ?_
        refine g_iconst O dX11_taken_41 (5 : Int32) (by decide) ?_
        refine g_aload_n O dX11_taken_42 0 rfl rfl ?_
        refine g_getI O dX11_taken_43 fx_RX11_131 (hp2 _ rfl) ?_
        refine g_bipush O dX11_taken_46 (8 : Int32) (by decide) ?_
        refine g_imul O dX11_taken_48 ?_
        refine g_iadd O dX11_taken_49 ?_
        refine g_bipush O dX11_taken_50 (24 : Int32) (by decide) ?_
        refine g_iadd O dX11_taken_52 ?_
        refine g_aload_n O dX11_taken_53 1 rfl rfl ?_
        refine g_getR O dX11_taken_54 fx_RX11_35 h0 ?_
        obtain ⟨q10, hq10, hf⟩ := k_obd hN hf
        refine g_callV (rest := []) O dX11_taken_57 (ct_X0_spell hZ (kf_11_1 h0) (hp2 _ rfl) (kf_11_5 h0) hq10) vx_RX11_141 (kf_11_1 h0) rfl rfl (by decide) (Nat.le_of_ble_eq_true rfl) (fun hp11 => ?_)
        change G Z C q10 60 [(3, .ref (za Z w3)), (0, .ref (za Z i0)), (1, .int p1), (2, .int p2)] []
        refine g_aload_n O dX11_taken_60 1 rfl rfl ?_
        refine g_getR O dX11_taken_61 fx_RX11_35 h0 ?_
        refine g_getI O dX11_taken_64 fx_RX11_77 (kf_11_5 h0) ?_
        exact hR _ _ hf _ _ dX11_taken_67

set_option maxHeartbeats 4000000 in
set_option maxRecDepth 100000 in
theorem ct_X11_sizeOrLetter {Z : ZT} (hZ : ZOk Z) {σ : Mem} {i0 : Nat} {p1 : Int32} (h0 : kn i0 = 5) {r : Int32} (hf : fX11_sizeOrLetter σ i0 p1 = some r) : Ct Z yX11_sizeOrLetter cX11_sizeOrLetter 3 (some .int) 1 21 [.ref (za Z i0), .int p1] σ (some (.int r)) True σ := by
  refine ct_i hZ (by decide +kernel) (Nat.le_of_ble_eq_true rfl) hf (fun C K O hN hR hf => ?_)
  have O : Ok Z C RX11 cX11_sizeOrLetter 3 1 21 := O
  change G Z C σ 0 [(0, .ref (za Z i0)), (1, .int p1)] []
  unfold fX11_sizeOrLetter at hf
  refine g_iload_n O dX11_sizeOrLetter_0 1 rfl rfl ?_
  refine g_iconst O dX11_sizeOrLetter_1 (-1 : Int32) (by decide) ?_
  refine g_icmp_ne 10 O dX11_sizeOrLetter_2 (by decide) hf (fun c1 hf => ?_) (fun c1 hf => ?_)
  · refine g_aload_n O dX11_sizeOrLetter_5 0 rfl rfl ?_
    refine g_getI O dX11_sizeOrLetter_6 fx_RX11_77 h0 ?_
    exact hR _ hf _ _ dX11_sizeOrLetter_9
  · refine g_aload_n O dX11_sizeOrLetter_10 0 rfl rfl ?_
    refine g_iload_n O dX11_sizeOrLetter_11 1 rfl rfl ?_
    obtain ⟨q2, hq2, hf⟩ := k_obd hN hf
    refine g_callV (rest := []) O dX11_sizeOrLetter_12 (ct_X5_at hZ h0 hq2) vx_RX11_320 h0 rfl rfl (by decide) (Nat.le_of_ble_eq_true rfl) (fun hp3 => ?_)
    change G Z C σ 15 [(0, .ref (za Z i0)), (1, .int p1)] [.int q2]
    refine g_istore_nP O dX11_sizeOrLetter_15 rfl (by decide) [(2, .int q2), (0, .ref (za Z i0)), (1, .int p1)] rfl ?_
    refine g_iload_n O dX11_sizeOrLetter_16 0 rfl rfl ?_
    refine g_iconst O dX11_sizeOrLetter_17 (-1 : Int32) (by decide) ?_
    refine g_icmp_ne 26 O dX11_sizeOrLetter_18 (by decide) hf (fun c4 hf => ?_) (fun c4 hf => ?_)
    · refine g_bipush O dX11_sizeOrLetter_21 (-12 : Int32) (by decide) ?_
      refine g_goto 27 O dX11_sizeOrLetter_23 (by decide) ?_
      exact hR _ hf _ _ dX11_sizeOrLetter_27
    · refine g_iload_n O dX11_sizeOrLetter_26 0 rfl rfl ?_
      exact hR _ hf _ _ dX11_sizeOrLetter_27

set_option maxHeartbeats 4000000 in
set_option maxRecDepth 100000 in
theorem ct_X11_form {Z : ZT} (hZ : ZOk Z) {σ : Mem} {i0 : Nat} {p1 : Int32} {p2 : Int32} {p3 : Int32} (h0 : kn i0 = 11) {r : (Int32 × Mem)} (hf : fX11_form σ i0 p1 p2 p3 = some r) : Ct Z yX11_form cX11_form 5 (some .int) 3 89 [.ref (za Z i0), .int p1, .int p2, .int p3] σ (some (.int r.1)) True r.2 := by
  refine ct_im hZ (by decide +kernel) (Nat.le_of_ble_eq_true rfl) hf (fun C K O hN hR hf => ?_)
  have O : Ok Z C RX11 cX11_form 5 3 89 := O
  change G Z C σ 0 [(0, .ref (za Z i0)), (1, .int p1), (2, .int p2), (3, .int p3)] []
  unfold fX11_form at hf
  refine g_aload_n O dX11_form_0 0 rfl rfl ?_
  refine g_getR O dX11_form_1 fx_RX11_21 h0 ?_
  refine g_iload_n O dX11_form_4 1 rfl rfl ?_
  obtain ⟨q1, hq1, hf⟩ := k_obd hN hf
  refine g_callV (rest := []) O dX11_form_5 (ct_X0_wordAt hZ (kf_11_1 h0) hq1) vx_RX11_119 (kf_11_1 h0) rfl rfl (by decide) (Nat.le_of_ble_eq_true rfl) (fun hp2 => ?_)
  refine k_ocs hf (fun he hf1 => ?_) (fun w3 he hf1 => ?_)
  · subst he
    have hf := hf1
    change G Z C σ 8 [(0, .ref (za Z i0)), (1, .int p1), (2, .int p2), (3, .int p3)] [.null]
    refine g_astoreN O dX11_form_8 (by decide) [(4, .null), (0, .ref (za Z i0)), (1, .int p1), (2, .int p2), (3, .int p3)] rfl ?_
    refine g_aloadN O dX11_form_10 0 rfl ?_
    refine g_ifnullN 24 O dX11_form_12 (by decide) ?_
    refine g_bipush O dX11_form_24 (-2 : Int32) (by decide) ?_
    exact hR _ _ hf _ _ dX11_form_26
  · subst he
    have hf := hf1
    change G Z C σ 8 [(0, .ref (za Z i0)), (1, .int p1), (2, .int p2), (3, .int p3)] [.ref (za Z w3)]
    refine g_astoreP O dX11_form_8 (by decide) [(4, .ref (za Z w3)), (0, .ref (za Z i0)), (1, .int p1), (2, .int p2), (3, .int p3)] rfl ?_
    refine g_aload O dX11_form_10 0 rfl ?_
    refine g_ifnullR O dX11_form_12 ?_
    refine g_iload_n O dX11_form_15 3 rfl rfl ?_
    refine g_bipush O dX11_form_16 (96 : Int32) (by decide) ?_
    obtain ⟨q4, hq4, hf⟩ := k_obd hN hf
    refine g_callS (rest := []) O dX11_form_18 (ct_X11_isBelow hZ  hq4) sx_RX11_84 rfl rfl (by decide) (Nat.le_of_ble_eq_true rfl) (fun hp5 => ?_)
    change G Z C σ 21 [(4, .ref (za Z w3)), (0, .ref (za Z i0)), (1, .int p1), (2, .int p2), (3, .int p3)] [.int q4]
    refine g_if_ne 27 O dX11_form_21 (by decide) hf (fun c6 hf => ?_) (fun c6 hf => ?_)
    · refine g_bipush O dX11_form_24 (-2 : Int32) (by decide) ?_
      exact hR _ _ hf _ _ dX11_form_26
    · refine g_aload_n O dX11_form_27 1 rfl rfl ?_
      refine g_getR O dX11_form_28 fx_RX11_21 h0 ?_
      refine g_aload O dX11_form_31 0 rfl ?_
      refine g_iload_n O dX11_form_33 3 rfl rfl ?_
      refine g_aload_n O dX11_form_34 1 rfl rfl ?_
      refine g_getR O dX11_form_35 fx_RX11_35 h0 ?_
      obtain ⟨q7, hq7, hf⟩ := k_obd hN hf
      refine g_callV (rest := []) O dX11_form_38 (ct_X0_spell hZ (kf_11_1 h0) (hp2 _ rfl) (kf_11_5 h0) hq7) vx_RX11_141 (kf_11_1 h0) rfl rfl (by decide) (Nat.le_of_ble_eq_true rfl) (fun hp8 => ?_)
      change G Z C q7 41 [(4, .ref (za Z w3)), (0, .ref (za Z i0)), (1, .int p1), (2, .int p2), (3, .int p3)] []
      refine g_aload_n O dX11_form_41 1 rfl rfl ?_
      refine g_getR O dX11_form_42 fx_RX11_35 h0 ?_
      refine g_iload_n O dX11_form_45 4 rfl rfl ?_
      obtain ⟨q9, hq9, hf⟩ := k_obd hN hf
      refine g_callS (rest := []) O dX11_form_46 (ct_X11_sizeOrLetter hZ (kf_11_5 h0) hq9) sx_RX11_145 rfl rfl (by decide) (Nat.le_of_ble_eq_true rfl) (fun hp10 => ?_)
      change G Z C q7 49 [(4, .ref (za Z w3)), (0, .ref (za Z i0)), (1, .int p1), (2, .int p2), (3, .int p3)] [.int q9]
      exact hR _ _ hf _ _ dX11_form_49

set_option maxHeartbeats 4000000 in
set_option maxRecDepth 100000 in
theorem ct_X11_desk {Z : ZT} (hZ : ZOk Z) {σ : Mem} {i0 : Nat} {p1 : Int32} {p2 : Int32} (h0 : kn i0 = 11) {r : (Int32 × Mem)} (hf : fX11_desk σ i0 p1 p2 = some r) : Ct Z yX11_desk cX11_desk 5 (some .int) 3 68 [.ref (za Z i0), .int p1, .int p2] σ (some (.int r.1)) True r.2 := by
  refine ct_im hZ (by decide +kernel) (Nat.le_of_ble_eq_true rfl) hf (fun C K O hN hR hf => ?_)
  have O : Ok Z C RX11 cX11_desk 5 3 68 := O
  change G Z C σ 0 [(0, .ref (za Z i0)), (1, .int p1), (2, .int p2)] []
  unfold fX11_desk at hf
  refine g_aload_n O dX11_desk_0 0 rfl rfl ?_
  refine g_getR O dX11_desk_1 fx_RX11_21 h0 ?_
  refine g_iload_n O dX11_desk_4 1 rfl rfl ?_
  obtain ⟨q1, hq1, hf⟩ := k_obd hN hf
  refine g_callV (rest := []) O dX11_desk_5 (ct_X0_frameAt hZ (kf_11_1 h0) hq1) vx_RX11_149 (kf_11_1 h0) rfl rfl (by decide) (Nat.le_of_ble_eq_true rfl) (fun hp2 => ?_)
  refine k_ocs hf (fun he hf1 => ?_) (fun w3 he hf1 => ?_)
  · subst he
    have hf := hf1
    change G Z C σ 8 [(0, .ref (za Z i0)), (1, .int p1), (2, .int p2)] [.null]
    refine g_astore_nN O dX11_desk_8 rfl (by decide) [(3, .null), (0, .ref (za Z i0)), (1, .int p1), (2, .int p2)] rfl ?_
    refine g_aload_nN O dX11_desk_9 0 rfl rfl ?_
    refine g_ifnullN 21 O dX11_desk_10 (by decide) ?_
    refine g_bipush O dX11_desk_21 (-2 : Int32) (by decide) ?_
    exact hR _ _ hf _ _ dX11_desk_23
  · subst he
    have hf := hf1
    change G Z C σ 8 [(0, .ref (za Z i0)), (1, .int p1), (2, .int p2)] [.ref (za Z w3)]
    refine g_astore_nP O dX11_desk_8 rfl (by decide) [(3, .ref (za Z w3)), (0, .ref (za Z i0)), (1, .int p1), (2, .int p2)] rfl ?_
    refine g_aload_n O dX11_desk_9 0 rfl rfl ?_
    refine g_ifnullR O dX11_desk_10 ?_
    refine g_iload_n O dX11_desk_13 3 rfl rfl ?_
    refine g_iconst O dX11_desk_14 (4 : Int32) (by decide) ?_
    obtain ⟨q4, hq4, hf⟩ := k_obd hN hf
    refine g_callS (rest := []) O dX11_desk_15 (ct_X11_isBelow hZ  hq4) sx_RX11_84 rfl rfl (by decide) (Nat.le_of_ble_eq_true rfl) (fun hp5 => ?_)
    change G Z C σ 18 [(3, .ref (za Z w3)), (0, .ref (za Z i0)), (1, .int p1), (2, .int p2)] [.int q4]
    refine g_if_ne 24 O dX11_desk_18 (by decide) hf (fun c6 hf => ?_) (fun c6 hf => ?_)
    · refine g_bipush O dX11_desk_21 (-2 : Int32) (by decide) ?_
      exact hR _ _ hf _ _ dX11_desk_23
    · refine g_aload_n O dX11_desk_24 1 rfl rfl ?_
      refine g_getR O dX11_desk_25 fx_RX11_21 h0 ?_
      refine g_getR O dX11_desk_28 fx_RX11_175 (kf_11_1 h0) ?_
      refine g_iload_n O dX11_desk_31 2 rfl rfl ?_
      refine g_iload_n O dX11_desk_32 3 rfl rfl ?_
      obtain ⟨q7, hq7, hf⟩ := k_obd hN hf
      refine g_callV (rest := []) O dX11_desk_33 (ct_X2_begin hZ (kf_0_7 (kf_11_1 h0)) hq7) vx_RX11_179 (kf_0_7 (kf_11_1 h0)) rfl rfl (by decide) (Nat.le_of_ble_eq_true rfl) (fun hp8 => ?_)
      change G Z C q7 36 [(3, .ref (za Z w3)), (0, .ref (za Z i0)), (1, .int p1), (2, .int p2)] []
      refine g_iconst O dX11_desk_36 (0 : Int32) (by decide) ?_
      refine g_istoreP O dX11_desk_37 (by decide) [(4, .int (0 : Int32)), (3, .ref (za Z w3)), (0, .ref (za Z i0)), (1, .int p1), (2, .int p2)] rfl ?_
      refine g_sub [0, 1, 2] rfl ?_
      refine g_lp hN (fun (a9 : Int32 × Mem) => G Z C a9.2 39 [(4, .int a9.1), (3, .ref (za Z w3)), (0, .ref (za Z i0))] []) hf (fun a9 _ hN9 hI9 hX9 hf => ?_)
      unfold sX11_desk_39 at hf
      refine g_iload O dX11_desk_39 0 rfl ?_
      refine g_aload_n O dX11_desk_41 1 rfl rfl ?_
      refine g_getI O dX11_desk_42 fx_RX11_185 (hp2 _ rfl) ?_
      refine g_icmp_ge 77 O dX11_desk_45 (by decide) hf (fun c10 hf => ?_) (fun c10 hf => ?_)
      · have hf := hX9 _ hf
        refine g_aload_n O dX11_desk_77 1 rfl rfl ?_
        refine g_getI O dX11_desk_78 fx_RX11_185 (hp2 _ rfl) ?_
        exact hR _ _ hf _ _ dX11_desk_81
      · refine g_aload_n O dX11_desk_48 2 rfl rfl ?_
        refine g_getR O dX11_desk_49 fx_RX11_21 h0 ?_
        refine g_getR O dX11_desk_52 fx_RX11_175 (kf_11_1 h0) ?_
        refine g_iload O dX11_desk_55 0 rfl ?_
        refine g_aload_n O dX11_desk_57 2 rfl rfl ?_
        refine g_getR O dX11_desk_58 fx_RX11_21 h0 ?_
        refine g_aload_n O dX11_desk_61 1 rfl rfl ?_
        refine g_iload O dX11_desk_62 0 rfl ?_
        refine g_iconst O dX11_desk_64 (0 : Int32) (by decide) ?_
        obtain ⟨q11, hq11, hf⟩ := k_obd hN9 hf
        refine g_callV (rest := [.int a9.1, .ref (za Z ((i0 + 3) + 7))]) O dX11_desk_65 (ct_X0_wordFor hZ (kf_11_1 h0) (hp2 _ rfl) hq11) vx_RX11_186 (kf_11_1 h0) rfl rfl (by decide) (Nat.le_of_ble_eq_true rfl) (fun hp12 => ?_)
        change G Z C a9.2 68 [(4, .int a9.1), (3, .ref (za Z w3)), (0, .ref (za Z i0))] [.int q11, .int a9.1, .ref (za Z ((i0 + 3) + 7))]
        obtain ⟨q13, hq13, hf⟩ := k_obd hN9 hf
        refine g_callV (rest := []) O dX11_desk_68 (ct_X2_fill hZ (kf_0_7 (kf_11_1 h0)) hq13) vx_RX11_190 (kf_0_7 (kf_11_1 h0)) rfl rfl (by decide) (Nat.le_of_ble_eq_true rfl) (fun hp14 => ?_)
        change G Z C q13 71 [(4, .int a9.1), (3, .ref (za Z w3)), (0, .ref (za Z i0))] []
        refine g_iinc O dX11_desk_71 0 rfl (by decide) (1) (by decide) (fun y => [(4, .int y), (3, .ref (za Z w3)), (0, .ref (za Z i0))]) (fun _ => rfl) hf (fun x15 hf => ?_)
        refine g_goto 39 O dX11_desk_74 (by decide) ?_
        exact hI9 _ hf

set_option maxHeartbeats 4000000 in
set_option maxRecDepth 100000 in
theorem ct_X11_sayDesk {Z : ZT} (hZ : ZOk Z) {σ : Mem} {i0 : Nat} (h0 : kn i0 = 11) {r : (Int32 × Mem)} (hf : fX11_sayDesk σ i0 = some r) : Ct Z yX11_sayDesk cX11_sayDesk 1 (some .boolean) 4 116 [.ref (za Z i0)] σ (some (.int r.1)) (r.1 = 0 ∨ r.1 = 1) r.2 := by
  refine ct_zm hZ (by decide +kernel) (Nat.le_of_ble_eq_true rfl) hf (fun C K O hN hR hf => ?_)
  have O : Ok Z C RX11 cX11_sayDesk 1 4 116 := O
  change G Z C σ 0 [(0, .ref (za Z i0))] []
  unfold fX11_sayDesk at hf
  refine g_aload_n O dX11_sayDesk_0 0 rfl rfl ?_
  refine g_getR O dX11_sayDesk_1 fx_RX11_41 h0 ?_
  refine g_aload_n O dX11_sayDesk_4 0 rfl rfl ?_
  refine g_getR O dX11_sayDesk_5 fx_RX11_21 h0 ?_
  refine g_aload_n O dX11_sayDesk_8 0 rfl rfl ?_
  refine g_getR O dX11_sayDesk_9 fx_RX11_21 h0 ?_
  refine g_getR O dX11_sayDesk_12 fx_RX11_175 (kf_11_1 h0) ?_
  refine g_aload_n O dX11_sayDesk_15 0 rfl rfl ?_
  refine g_getR O dX11_sayDesk_16 fx_RX11_21 h0 ?_
  refine g_getR O dX11_sayDesk_19 fx_RX11_175 (kf_11_1 h0) ?_
  refine g_getI O dX11_sayDesk_22 fx_RX11_325 (kf_0_7 (kf_11_1 h0)) ?_
  refine g_aload_n O dX11_sayDesk_25 0 rfl rfl ?_
  refine g_getR O dX11_sayDesk_26 fx_RX11_21 h0 ?_
  refine g_getR O dX11_sayDesk_29 fx_RX11_175 (kf_11_1 h0) ?_
  refine g_getI O dX11_sayDesk_32 fx_RX11_202 (kf_0_7 (kf_11_1 h0)) ?_
  obtain ⟨q1, hq1, hf⟩ := k_obd hN hf
  refine g_callV (rest := []) O dX11_sayDesk_35 (ct_X8_say hZ (kf_11_6 h0) (kf_11_1 h0) (kf_0_7 (kf_11_1 h0)) hq1) vx_RX11_328 (kf_11_6 h0) rfl rfl (by decide) (Nat.le_of_ble_eq_true rfl) (fun hp2 => ?_)
  change G Z C q1.2 38 [(0, .ref (za Z i0))] [.int q1.1]
  exact hR _ _ hf hp2 _ _ dX11_sayDesk_38

set_option maxHeartbeats 4000000 in
set_option maxRecDepth 100000 in
theorem ct_X11_said {Z : ZT} (hZ : ZOk Z) {σ : Mem} {i0 : Nat} {p1 : Int32} (h0 : kn i0 = 11) {r : (Int32 × Mem)} (hf : fX11_said σ i0 p1 = some r) : Ct Z yX11_said cX11_said 2 (some .int) 5 136 [.ref (za Z i0), .int p1] σ (some (.int r.1)) True r.2 := by
  refine ct_im hZ (by decide +kernel) (Nat.le_of_ble_eq_true rfl) hf (fun C K O hN hR hf => ?_)
  have O : Ok Z C RX11 cX11_said 2 5 136 := O
  change G Z C σ 0 [(0, .ref (za Z i0)), (1, .int p1)] []
  unfold fX11_said at hf
  refine g_aload_n O dX11_said_0 0 rfl rfl ?_
  obtain ⟨q1, hq1, hf⟩ := k_obd hN hf
  refine g_callV (rest := []) O dX11_said_1 (ct_X11_sayDesk hZ h0 hq1) vx_RX11_205 h0 rfl rfl (by decide) (Nat.le_of_ble_eq_true rfl) (fun hp2 => ?_)
  change G Z C q1.2 4 [(0, .ref (za Z i0)), (1, .int p1)] [.int q1.1]
  refine g_pop O dX11_said_4 rfl ?_
  refine g_aload_n O dX11_said_5 0 rfl rfl ?_
  refine g_getR O dX11_said_6 fx_RX11_41 h0 ?_
  refine g_getR O dX11_said_9 fx_RX11_208 (kf_11_6 h0) ?_
  refine g_iload_n O dX11_said_12 1 rfl rfl ?_
  obtain ⟨q3, hq3, hf⟩ := k_obd hN hf
  refine g_callS (rest := []) O dX11_said_13 (ct_X11_sizeOrLetter hZ (kf_8_1 (kf_11_6 h0)) hq3) sx_RX11_145 rfl rfl (by decide) (Nat.le_of_ble_eq_true rfl) (fun hp4 => ?_)
  change G Z C q1.2 16 [(0, .ref (za Z i0)), (1, .int p1)] [.int q3]
  exact hR _ _ hf _ _ dX11_said_16

set_option maxHeartbeats 4000000 in
set_option maxRecDepth 100000 in
theorem ct_X11_text {Z : ZT} (hZ : ZOk Z) {σ : Mem} {i0 : Nat} (h0 : kn i0 = 11) {r : (Int32 × Mem)} (hf : fX11_text σ i0 = some r) : Ct Z yX11_text cX11_text 2 (some .int) 2 61 [.ref (za Z i0)] σ (some (.int r.1)) True r.2 := by
  refine ct_im hZ (by decide +kernel) (Nat.le_of_ble_eq_true rfl) hf (fun C K O hN hR hf => ?_)
  have O : Ok Z C RX11 cX11_text 2 2 61 := O
  change G Z C σ 0 [(0, .ref (za Z i0))] []
  unfold fX11_text at hf
  refine g_bipush O dX11_text_0 (-3 : Int32) (by decide) ?_
  refine g_istore_nP O dX11_text_2 rfl (by decide) [(1, .int (-3 : Int32)), (0, .ref (za Z i0))] rfl ?_
  refine g_aload_n O dX11_text_3 1 rfl rfl ?_
  refine g_getR O dX11_text_4 fx_RX11_14 h0 ?_
  obtain ⟨q1, hq1, hf⟩ := k_obd hN hf
  refine g_callV (rest := []) O dX11_text_7 (ct_X5_isAllWords hZ (kf_11_0 h0) hq1) vx_RX11_219 (kf_11_0 h0) rfl rfl (by decide) (Nat.le_of_ble_eq_true rfl) (fun hp2 => ?_)
  change G Z C σ 10 [(1, .int (-3 : Int32)), (0, .ref (za Z i0))] [.int q1]
  refine g_jn (fun (y3 : Int32 × Mem) => G Z C y3.2 38 [(0, .ref (za Z i0)), (1, .int y3.1)] []) hf (fun y3 hf => ?_) (fun k3 hk3 hf => ?_)
  · refine g_aload_n O dX11_text_38 0 rfl rfl ?_
    refine g_getR O dX11_text_39 fx_RX11_14 h0 ?_
    obtain ⟨q4, hq4, hf⟩ := k_obd hN hf
    refine g_callV (rest := []) O dX11_text_42 (ct_X5_clear hZ (kf_11_0 h0) hq4) vx_RX11_96 (kf_11_0 h0) rfl rfl (by decide) (Nat.le_of_ble_eq_true rfl) (fun hp5 => ?_)
    change G Z C q4 45 [(0, .ref (za Z i0)), (1, .int y3.1)] []
    refine g_iload_n O dX11_text_45 1 rfl rfl ?_
    exact hR _ _ hf _ _ dX11_text_46
  · skip
    refine g_if_eq 38 O dX11_text_10 (by decide) hf (fun c6 hf => ?_) (fun c6 hf => ?_)
    · refine g_sub [1, 0] rfl ?_
      exact hk3 _ hf
    · refine g_aload_n O dX11_text_13 1 rfl rfl ?_
      refine g_getR O dX11_text_14 fx_RX11_21 h0 ?_
      refine g_getR O dX11_text_17 fx_RX11_222 (kf_11_1 h0) ?_
      refine g_aload_n O dX11_text_20 1 rfl rfl ?_
      refine g_getR O dX11_text_21 fx_RX11_14 h0 ?_
      obtain ⟨q7, hq7, hf⟩ := k_obd hN hf
      refine g_callV (rest := []) O dX11_text_24 (ct_X5_become hZ (kf_0_6 (kf_11_1 h0)) (kf_11_0 h0) hq7) vx_RX11_103 (kf_0_6 (kf_11_1 h0)) rfl rfl (by decide) (Nat.le_of_ble_eq_true rfl) (fun hp8 => ?_)
      change G Z C q7 27 [(1, .int (-3 : Int32)), (0, .ref (za Z i0))] []
      refine g_aload_n O dX11_text_27 1 rfl rfl ?_
      refine g_getR O dX11_text_28 fx_RX11_21 h0 ?_
      refine g_getR O dX11_text_31 fx_RX11_222 (kf_11_1 h0) ?_
      obtain ⟨q9, hq9, hf⟩ := k_obd hN hf
      refine g_callV (rest := []) O dX11_text_34 (ct_X5_words hZ (kf_0_6 (kf_11_1 h0)) hq9) vx_RX11_225 (kf_0_6 (kf_11_1 h0)) rfl rfl (by decide) (Nat.le_of_ble_eq_true rfl) (fun hp10 => ?_)
      change G Z C q7 37 [(1, .int (-3 : Int32)), (0, .ref (za Z i0))] [.int q9]
      refine g_istore_nP O dX11_text_37 rfl (by decide) [(1, .int q9), (0, .ref (za Z i0))] rfl ?_
      refine g_sub [1, 0] rfl ?_
      exact hk3 _ hf

set_option maxHeartbeats 4000000 in
set_option maxRecDepth 100000 in
theorem ct_X11_trayAt {Z : ZT} (hZ : ZOk Z) {σ : Mem} {i0 : Nat} {p1 : Int32} (h0 : kn i0 = 11) {r : (Option Nat)} (hf : fX11_trayAt σ i0 p1 = some r) : Ct Z yX11_trayAt cX11_trayAt 2 (some (.object "PhraseMoods$Tray")) 0 0 [.ref (za Z i0), .int p1] σ (some (rv Z r)) (∀ i, r = some i → kn i = 9) σ := by
  refine ct_a 9 hZ (by decide +kernel) (Nat.le_of_ble_eq_true rfl) hf (fun C K O hN hR0 hR1 hf => ?_)
  have O : Ok Z C RX11 cX11_trayAt 2 0 0 := O
  change G Z C σ 0 [(0, .ref (za Z i0)), (1, .int p1)] []
  unfold fX11_trayAt at hf
  refine g_iload_n O dX11_trayAt_0 1 rfl rfl ?_
  refine g_if_lt 22 O dX11_trayAt_1 (by decide) hf (fun c1 hf => ?_) (fun c1 hf => ?_)
  · refine g_null O dX11_trayAt_22 ?_
    exact hR0 hf _ _ dX11_trayAt_23
  · refine g_iload_n O dX11_trayAt_4 1 rfl rfl ?_
    refine g_aload_n O dX11_trayAt_5 0 rfl rfl ?_
    refine g_getR O dX11_trayAt_6 fx_RX11_67 h0 ?_
    refine g_alen O dX11_trayAt_9 (kf_11_10 h0) (by decide) ?_
    refine g_icmp_ge 22 O dX11_trayAt_10 (by decide) hf (fun c2 hf => ?_) (fun c2 hf => ?_)
    · refine g_null O dX11_trayAt_22 ?_
      exact hR0 hf _ _ dX11_trayAt_23
    · refine g_aload_n O dX11_trayAt_13 0 rfl rfl ?_
      refine g_getR O dX11_trayAt_14 fx_RX11_67 h0 ?_
      refine g_iload_n O dX11_trayAt_17 1 rfl rfl ?_
      refine g_aald O hN dX11_trayAt_18 (kf_11_10 h0) (by decide) (el_25 (kf_11_10 h0)) hf (fun hb3 hf => ?_)
      refine g_goto 23 O dX11_trayAt_19 (by decide) ?_
      exact hR1 _ hf (ke_25 (kf_11_10 h0) (inb_lt hb3)) _ _ dX11_trayAt_23

set_option maxHeartbeats 4000000 in
set_option maxRecDepth 100000 in
theorem ct_X11_tray {Z : ZT} (hZ : ZOk Z) {σ : Mem} {i0 : Nat} {p1 : Int32} {p2 : Int32} {p3 : Int32} (h0 : kn i0 = 11) {r : (Int32 × Mem)} (hf : fX11_tray σ i0 p1 p2 p3 = some r) : Ct Z yX11_tray cX11_tray 5 (some .int) 2 45 [.ref (za Z i0), .int p1, .int p2, .int p3] σ (some (.int r.1)) True r.2 := by
  refine ct_im hZ (by decide +kernel) (Nat.le_of_ble_eq_true rfl) hf (fun C K O hN hR hf => ?_)
  have O : Ok Z C RX11 cX11_tray 5 2 45 := O
  change G Z C σ 0 [(0, .ref (za Z i0)), (1, .int p1), (2, .int p2), (3, .int p3)] []
  unfold fX11_tray at hf
  refine g_aload_n O dX11_tray_0 0 rfl rfl ?_
  refine g_iload_n O dX11_tray_1 1 rfl rfl ?_
  obtain ⟨q1, hq1, hf⟩ := k_obd hN hf
  refine g_callV (rest := []) O dX11_tray_2 (ct_X11_trayAt hZ h0 hq1) vx_RX11_261 h0 rfl rfl (by decide) (Nat.le_of_ble_eq_true rfl) (fun hp2 => ?_)
  refine k_ocs hf (fun he hf1 => ?_) (fun w3 he hf1 => ?_)
  · subst he
    have hf := hf1
    change G Z C σ 5 [(0, .ref (za Z i0)), (1, .int p1), (2, .int p2), (3, .int p3)] [.null]
    refine g_astoreN O dX11_tray_5 (by decide) [(4, .null), (0, .ref (za Z i0)), (1, .int p1), (2, .int p2), (3, .int p3)] rfl ?_
    refine g_aloadN O dX11_tray_7 0 rfl ?_
    refine g_ifnullN 27 O dX11_tray_9 (by decide) ?_
    refine g_bipush O dX11_tray_27 (-2 : Int32) (by decide) ?_
    exact hR _ _ hf _ _ dX11_tray_29
  · subst he
    have hf := hf1
    change G Z C σ 5 [(0, .ref (za Z i0)), (1, .int p1), (2, .int p2), (3, .int p3)] [.ref (za Z w3)]
    refine g_astoreP O dX11_tray_5 (by decide) [(4, .ref (za Z w3)), (0, .ref (za Z i0)), (1, .int p1), (2, .int p2), (3, .int p3)] rfl ?_
    refine g_aload O dX11_tray_7 0 rfl ?_
    refine g_ifnullR O dX11_tray_9 ?_
    refine g_iload_n O dX11_tray_12 3 rfl rfl ?_
    refine g_bipush O dX11_tray_13 (6 : Int32) (by decide) ?_
    obtain ⟨q4, hq4, hf⟩ := k_obd hN hf
    refine g_callS (rest := []) O dX11_tray_15 (ct_X11_isBelow hZ  hq4) sx_RX11_84 rfl rfl (by decide) (Nat.le_of_ble_eq_true rfl) (fun hp5 => ?_)
    change G Z C σ 18 [(4, .ref (za Z w3)), (0, .ref (za Z i0)), (1, .int p1), (2, .int p2), (3, .int p3)] [.int q4]
    refine g_if_eq 27 O dX11_tray_18 (by decide) hf (fun c6 hf => ?_) (fun c6 hf => ?_)
    · refine g_bipush O dX11_tray_27 (-2 : Int32) (by decide) ?_
      exact hR _ _ hf _ _ dX11_tray_29
    · refine g_iload_n O dX11_tray_21 4 rfl rfl ?_
      refine g_bipush O dX11_tray_22 (20 : Int32) (by decide) ?_
      refine g_icmp_le 30 O dX11_tray_24 (by decide) hf (fun c7 hf => ?_) (fun c7 hf => ?_)
      · refine g_iload_n O dX11_tray_30 4 rfl rfl ?_
        refine g_if_ge 37 O dX11_tray_31 (by decide) hf (fun c8 hf => ?_) (fun c8 hf => ?_)
        · refine g_aload O dX11_tray_37 0 rfl ?_
          refine g_iload_n O dX11_tray_39 3 rfl rfl ?_
          refine g_iload_n O dX11_tray_40 4 rfl rfl ?_
          obtain ⟨q9, hq9, hf⟩ := k_obd hN hf
          refine g_callV (rest := []) O dX11_tray_41 (ct_X9_begin hZ (hp2 _ rfl) hq9) vx_RX11_265 (hp2 _ rfl) rfl rfl (by decide) (Nat.le_of_ble_eq_true rfl) (fun hp10 => ?_)
          change G Z C q9 44 [(4, .ref (za Z w3)), (0, .ref (za Z i0)), (1, .int p1), (2, .int p2), (3, .int p3)] []
          refine g_iconst O dX11_tray_44 (1 : Int32) (by decide) ?_
          exact hR _ _ hf _ _ dX11_tray_45
        · refine g_bipush O dX11_tray_34 (-14 : Int32) (by decide) ?_
          exact hR _ _ hf _ _ dX11_tray_36
      · refine g_bipush O dX11_tray_27 (-2 : Int32) (by decide) ?_
        exact hR _ _ hf _ _ dX11_tray_29

set_option maxHeartbeats 4000000 in
set_option maxRecDepth 100000 in
theorem ct_X11_lays {Z : ZT} (hZ : ZOk Z) {σ : Mem} {i0 : Nat} {p1 : Int32} {p2 : Int32} {p3 : Int32} (h0 : kn i0 = 11) {r : (Int32 × Mem)} (hf : fX11_lays σ i0 p1 p2 p3 = some r) : Ct Z yX11_lays cX11_lays 6 (some .int) 2 43 [.ref (za Z i0), .int p1, .int p2, .int p3] σ (some (.int r.1)) True r.2 := by
  refine ct_im hZ (by decide +kernel) (Nat.le_of_ble_eq_true rfl) hf (fun C K O hN hR hf => ?_)
  have O : Ok Z C RX11 cX11_lays 6 2 43 := O
  change G Z C σ 0 [(0, .ref (za Z i0)), (1, .int p1), (2, .int p2), (3, .int p3)] []
  unfold fX11_lays at hf
  refine g_aload_n O dX11_lays_0 0 rfl rfl ?_
  refine g_iload_n O dX11_lays_1 1 rfl rfl ?_
  obtain ⟨q1, hq1, hf⟩ := k_obd hN hf
  refine g_callV (rest := []) O dX11_lays_2 (ct_X11_trayAt hZ h0 hq1) vx_RX11_261 h0 rfl rfl (by decide) (Nat.le_of_ble_eq_true rfl) (fun hp2 => ?_)
  refine k_ocs hf (fun he hf1 => ?_) (fun w3 he hf1 => ?_)
  · subst he
    have hf := hf1
    change G Z C σ 5 [(0, .ref (za Z i0)), (1, .int p1), (2, .int p2), (3, .int p3)] [.null]
    refine g_astoreN O dX11_lays_5 (by decide) [(4, .null), (0, .ref (za Z i0)), (1, .int p1), (2, .int p2), (3, .int p3)] rfl ?_
    refine g_aload_n O dX11_lays_7 1 rfl rfl ?_
    refine g_getR O dX11_lays_8 fx_RX11_21 h0 ?_
    refine g_iload_n O dX11_lays_11 4 rfl rfl ?_
    obtain ⟨q4, hq4, hf⟩ := k_obd hN hf
    refine g_callV (rest := []) O dX11_lays_12 (ct_X0_wordAt hZ (kf_11_1 h0) hq4) vx_RX11_119 (kf_11_1 h0) rfl rfl (by decide) (Nat.le_of_ble_eq_true rfl) (fun hp5 => ?_)
    refine k_ocs hf (fun he hf1 => ?_) (fun w6 he hf1 => ?_)
    · subst he
      have hf := hf1
      change G Z C σ 15 [(4, .null), (0, .ref (za Z i0)), (1, .int p1), (2, .int p2), (3, .int p3)] [.null]
      refine g_astoreN O dX11_lays_15 (by decide) [(5, .null), (4, .null), (0, .ref (za Z i0)), (1, .int p1), (2, .int p2), (3, .int p3)] rfl ?_
      refine g_aloadN O dX11_lays_17 1 rfl ?_
      refine g_ifnullN 32 O dX11_lays_19 (by decide) ?_
      refine g_bipush O dX11_lays_32 (-2 : Int32) (by decide) ?_
      exact hR _ _ hf _ _ dX11_lays_34
    · subst he
      have hf := hf1
      change G Z C σ 15 [(4, .null), (0, .ref (za Z i0)), (1, .int p1), (2, .int p2), (3, .int p3)] [.ref (za Z w6)]
      refine g_astoreP O dX11_lays_15 (by decide) [(5, .ref (za Z w6)), (4, .null), (0, .ref (za Z i0)), (1, .int p1), (2, .int p2), (3, .int p3)] rfl ?_
      refine g_aloadN O dX11_lays_17 1 rfl ?_
      refine g_ifnullN 32 O dX11_lays_19 (by decide) ?_
      refine g_bipush O dX11_lays_32 (-2 : Int32) (by decide) ?_
      exact hR _ _ hf _ _ dX11_lays_34
  · subst he
    have hf := hf1
    change G Z C σ 5 [(0, .ref (za Z i0)), (1, .int p1), (2, .int p2), (3, .int p3)] [.ref (za Z w3)]
    refine g_astoreP O dX11_lays_5 (by decide) [(4, .ref (za Z w3)), (0, .ref (za Z i0)), (1, .int p1), (2, .int p2), (3, .int p3)] rfl ?_
    refine g_aload_n O dX11_lays_7 1 rfl rfl ?_
    refine g_getR O dX11_lays_8 fx_RX11_21 h0 ?_
    refine g_iload_n O dX11_lays_11 4 rfl rfl ?_
    obtain ⟨q7, hq7, hf⟩ := k_obd hN hf
    refine g_callV (rest := []) O dX11_lays_12 (ct_X0_wordAt hZ (kf_11_1 h0) hq7) vx_RX11_119 (kf_11_1 h0) rfl rfl (by decide) (Nat.le_of_ble_eq_true rfl) (fun hp8 => ?_)
    refine k_ocs hf (fun he hf1 => ?_) (fun w9 he hf1 => ?_)
    · subst he
      have hf := hf1
      change G Z C σ 15 [(4, .ref (za Z w3)), (0, .ref (za Z i0)), (1, .int p1), (2, .int p2), (3, .int p3)] [.null]
      refine g_astoreN O dX11_lays_15 (by decide) [(5, .null), (4, .ref (za Z w3)), (0, .ref (za Z i0)), (1, .int p1), (2, .int p2), (3, .int p3)] rfl ?_
      refine g_aload O dX11_lays_17 1 rfl ?_
      refine g_ifnullR O dX11_lays_19 ?_
      refine g_aloadN O dX11_lays_22 0 rfl ?_
      refine g_ifnonnullN O dX11_lays_24 ?_
      refine g_iload_n O dX11_lays_27 5 rfl rfl ?_
      refine g_iconst O dX11_lays_28 (-1 : Int32) (by decide) ?_
      refine g_icmp_eq 35 O dX11_lays_29 (by decide) hf (fun c10 hf => ?_) (fun c10 hf => ?_)
      · refine g_aload O dX11_lays_35 1 rfl ?_
        obtain ⟨q11, hq11, hf⟩ := k_obd hN hf
        refine g_callV (rest := []) O dX11_lays_37 (ct_X9_isMissing hZ (hp2 _ rfl) hq11) vx_RX11_266 (hp2 _ rfl) rfl rfl (by decide) (Nat.le_of_ble_eq_true rfl) (fun hp12 => ?_)
        change G Z C σ 40 [(5, .null), (4, .ref (za Z w3)), (0, .ref (za Z i0)), (1, .int p1), (2, .int p2), (3, .int p3)] [.int q11]
        refine g_if_eq 46 O dX11_lays_40 (by decide) hf (fun c13 hf => ?_) (fun c13 hf => ?_)
        · refine g_aload O dX11_lays_46 1 rfl ?_
          refine g_iload_n O dX11_lays_48 4 rfl rfl ?_
          obtain ⟨q14, hq14, hf⟩ := k_obd hN hf
          refine g_callV (rest := []) O dX11_lays_49 (ct_X9_has hZ (hp2 _ rfl) hq14) vx_RX11_269 (hp2 _ rfl) rfl rfl (by decide) (Nat.le_of_ble_eq_true rfl) (fun hp15 => ?_)
          change G Z C σ 52 [(5, .null), (4, .ref (za Z w3)), (0, .ref (za Z i0)), (1, .int p1), (2, .int p2), (3, .int p3)] [.int q14]
          refine g_if_ne 58 O dX11_lays_52 (by decide) hf (fun c16 hf => ?_) (fun c16 hf => ?_)
          · refine g_bipush O dX11_lays_55 (-12 : Int32) (by decide) ?_
            exact hR _ _ hf _ _ dX11_lays_57
          · refine g_aloadN O dX11_lays_58 0 rfl ?_
            refine g_ifnullN 79 O dX11_lays_60 (by decide) ?_
            refine g_aload O dX11_lays_79 1 rfl ?_
            refine g_iload_n O dX11_lays_81 4 rfl rfl ?_
            refine g_iload_n O dX11_lays_82 5 rfl rfl ?_
            obtain ⟨q17, hq17, hf⟩ := k_obd hN hf
            refine g_callV (rest := []) O dX11_lays_83 (ct_X9_lay hZ (hp2 _ rfl) hq17) vx_RX11_271 (hp2 _ rfl) rfl rfl (by decide) (Nat.le_of_ble_eq_true rfl) (fun hp18 => ?_)
            change G Z C q17 86 [(5, .null), (4, .ref (za Z w3)), (0, .ref (za Z i0)), (1, .int p1), (2, .int p2), (3, .int p3)] []
            refine g_iconst O dX11_lays_86 (1 : Int32) (by decide) ?_
            exact hR _ _ hf _ _ dX11_lays_87
        · refine g_bipush O dX11_lays_43 (-11 : Int32) (by decide) ?_
          exact hR _ _ hf _ _ dX11_lays_45
      · refine g_bipush O dX11_lays_32 (-2 : Int32) (by decide) ?_
        exact hR _ _ hf _ _ dX11_lays_34
    · subst he
      have hf := hf1
      change G Z C σ 15 [(4, .ref (za Z w3)), (0, .ref (za Z i0)), (1, .int p1), (2, .int p2), (3, .int p3)] [.ref (za Z w9)]
      refine g_astoreP O dX11_lays_15 (by decide) [(5, .ref (za Z w9)), (4, .ref (za Z w3)), (0, .ref (za Z i0)), (1, .int p1), (2, .int p2), (3, .int p3)] rfl ?_
      refine g_aload O dX11_lays_17 1 rfl ?_
      refine g_ifnullR O dX11_lays_19 ?_
      refine g_aload O dX11_lays_22 0 rfl ?_
      refine g_ifnonnullR 35 O dX11_lays_24 (by decide) ?_
      refine g_aload O dX11_lays_35 1 rfl ?_
      obtain ⟨q19, hq19, hf⟩ := k_obd hN hf
      refine g_callV (rest := []) O dX11_lays_37 (ct_X9_isMissing hZ (hp2 _ rfl) hq19) vx_RX11_266 (hp2 _ rfl) rfl rfl (by decide) (Nat.le_of_ble_eq_true rfl) (fun hp20 => ?_)
      change G Z C σ 40 [(5, .ref (za Z w9)), (4, .ref (za Z w3)), (0, .ref (za Z i0)), (1, .int p1), (2, .int p2), (3, .int p3)] [.int q19]
      refine g_if_eq 46 O dX11_lays_40 (by decide) hf (fun c21 hf => ?_) (fun c21 hf => ?_)
      · refine g_aload O dX11_lays_46 1 rfl ?_
        refine g_iload_n O dX11_lays_48 4 rfl rfl ?_
        obtain ⟨q22, hq22, hf⟩ := k_obd hN hf
        refine g_callV (rest := []) O dX11_lays_49 (ct_X9_has hZ (hp2 _ rfl) hq22) vx_RX11_269 (hp2 _ rfl) rfl rfl (by decide) (Nat.le_of_ble_eq_true rfl) (fun hp23 => ?_)
        change G Z C σ 52 [(5, .ref (za Z w9)), (4, .ref (za Z w3)), (0, .ref (za Z i0)), (1, .int p1), (2, .int p2), (3, .int p3)] [.int q22]
        refine g_if_ne 58 O dX11_lays_52 (by decide) hf (fun c24 hf => ?_) (fun c24 hf => ?_)
        · refine g_bipush O dX11_lays_55 (-12 : Int32) (by decide) ?_
          exact hR _ _ hf _ _ dX11_lays_57
        · refine g_aload O dX11_lays_58 0 rfl ?_
          refine g_ifnullR O dX11_lays_60 ?_
          refine g_aload O dX11_lays_63 0 rfl ?_
          refine g_aload O dX11_lays_65 1 rfl ?_
          refine g_getI O dX11_lays_67 fx_RX11_270 (hp2 _ rfl) ?_
          obtain ⟨q25, hq25, hf⟩ := k_obd hN hf
          refine g_callV (rest := []) O dX11_lays_70 (ct_X10_isOf hZ (hp8 _ rfl) hq25) vx_RX11_137 (hp8 _ rfl) rfl rfl (by decide) (Nat.le_of_ble_eq_true rfl) (fun hp26 => ?_)
          change G Z C σ 73 [(5, .ref (za Z w9)), (4, .ref (za Z w3)), (0, .ref (za Z i0)), (1, .int p1), (2, .int p2), (3, .int p3)] [.int q25]
          refine g_if_ne 79 O dX11_lays_73 (by decide) hf (fun c27 hf => ?_) (fun c27 hf => ?_)
          · refine g_bipush O dX11_lays_76 (-16 : Int32) (by decide) ?_
            exact hR _ _ hf _ _ dX11_lays_78
          · refine g_aload O dX11_lays_79 1 rfl ?_
            refine g_iload_n O dX11_lays_81 4 rfl rfl ?_
            refine g_iload_n O dX11_lays_82 5 rfl rfl ?_
            obtain ⟨q28, hq28, hf⟩ := k_obd hN hf
            refine g_callV (rest := []) O dX11_lays_83 (ct_X9_lay hZ (hp2 _ rfl) hq28) vx_RX11_271 (hp2 _ rfl) rfl rfl (by decide) (Nat.le_of_ble_eq_true rfl) (fun hp29 => ?_)
            change G Z C q28 86 [(5, .ref (za Z w9)), (4, .ref (za Z w3)), (0, .ref (za Z i0)), (1, .int p1), (2, .int p2), (3, .int p3)] []
            refine g_iconst O dX11_lays_86 (1 : Int32) (by decide) ?_
            exact hR _ _ hf _ _ dX11_lays_87
      · refine g_bipush O dX11_lays_43 (-11 : Int32) (by decide) ?_
        exact hR _ _ hf _ _ dX11_lays_45

set_option maxHeartbeats 4000000 in
set_option maxRecDepth 100000 in
theorem ct_X11_laid {Z : ZT} (hZ : ZOk Z) {σ : Mem} {i0 : Nat} {p1 : Int32} {p2 : Int32} (h0 : kn i0 = 11) {r : Int32} (hf : fX11_laid σ i0 p1 p2 = some r) : Ct Z yX11_laid cX11_laid 4 (some .int) 2 42 [.ref (za Z i0), .int p1, .int p2] σ (some (.int r)) True σ := by
  refine ct_i hZ (by decide +kernel) (Nat.le_of_ble_eq_true rfl) hf (fun C K O hN hR hf => ?_)
  have O : Ok Z C RX11 cX11_laid 4 2 42 := O
  change G Z C σ 0 [(0, .ref (za Z i0)), (1, .int p1), (2, .int p2)] []
  unfold fX11_laid at hf
  refine g_aload_n O dX11_laid_0 0 rfl rfl ?_
  refine g_iload_n O dX11_laid_1 1 rfl rfl ?_
  obtain ⟨q1, hq1, hf⟩ := k_obd hN hf
  refine g_callV (rest := []) O dX11_laid_2 (ct_X11_trayAt hZ h0 hq1) vx_RX11_261 h0 rfl rfl (by decide) (Nat.le_of_ble_eq_true rfl) (fun hp2 => ?_)
  refine k_ocs hf (fun he hf1 => ?_) (fun w3 he hf1 => ?_)
  · subst he
    have hf := hf1
    change G Z C σ 5 [(0, .ref (za Z i0)), (1, .int p1), (2, .int p2)] [.null]
    refine g_astore_nN O dX11_laid_5 rfl (by decide) [(3, .null), (0, .ref (za Z i0)), (1, .int p1), (2, .int p2)] rfl ?_
    refine g_aload_nN O dX11_laid_6 0 rfl rfl ?_
    refine g_ifnonnullN O dX11_laid_7 ?_
    refine g_bipush O dX11_laid_10 (-2 : Int32) (by decide) ?_
    exact hR _ hf _ _ dX11_laid_12
  · subst he
    have hf := hf1
    change G Z C σ 5 [(0, .ref (za Z i0)), (1, .int p1), (2, .int p2)] [.ref (za Z w3)]
    refine g_astore_nP O dX11_laid_5 rfl (by decide) [(3, .ref (za Z w3)), (0, .ref (za Z i0)), (1, .int p1), (2, .int p2)] rfl ?_
    refine g_aload_n O dX11_laid_6 0 rfl rfl ?_
    refine g_ifnonnullR 13 O dX11_laid_7 (by decide) ?_
    refine g_aload_n O dX11_laid_13 0 rfl rfl ?_
    obtain ⟨q4, hq4, hf⟩ := k_obd hN hf
    refine g_callV (rest := []) O dX11_laid_14 (ct_X9_isMissing hZ (hp2 _ rfl) hq4) vx_RX11_266 (hp2 _ rfl) rfl rfl (by decide) (Nat.le_of_ble_eq_true rfl) (fun hp5 => ?_)
    change G Z C σ 17 [(3, .ref (za Z w3)), (0, .ref (za Z i0)), (1, .int p1), (2, .int p2)] [.int q4]
    refine g_if_eq 23 O dX11_laid_17 (by decide) hf (fun c6 hf => ?_) (fun c6 hf => ?_)
    · refine g_aload_n O dX11_laid_23 0 rfl rfl ?_
      refine g_iload_n O dX11_laid_24 3 rfl rfl ?_
      obtain ⟨q7, hq7, hf⟩ := k_obd hN hf
      refine g_callV (rest := []) O dX11_laid_25 (ct_X9_has hZ (hp2 _ rfl) hq7) vx_RX11_269 (hp2 _ rfl) rfl rfl (by decide) (Nat.le_of_ble_eq_true rfl) (fun hp8 => ?_)
      change G Z C σ 28 [(3, .ref (za Z w3)), (0, .ref (za Z i0)), (1, .int p1), (2, .int p2)] [.int q7]
      refine g_if_eq 39 O dX11_laid_28 (by decide) hf (fun c9 hf => ?_) (fun c9 hf => ?_)
      · refine g_bipush O dX11_laid_39 (-12 : Int32) (by decide) ?_
        exact hR _ hf _ _ dX11_laid_41
      · refine g_aload_n O dX11_laid_31 0 rfl rfl ?_
        refine g_iload_n O dX11_laid_32 3 rfl rfl ?_
        obtain ⟨q10, hq10, hf⟩ := k_obd hN hf
        refine g_callV (rest := []) O dX11_laid_33 (ct_X9_wordAt hZ (hp2 _ rfl) hq10) vx_RX11_274 (hp2 _ rfl) rfl rfl (by decide) (Nat.le_of_ble_eq_true rfl) (fun hp11 => ?_)
        change G Z C σ 36 [(3, .ref (za Z w3)), (0, .ref (za Z i0)), (1, .int p1), (2, .int p2)] [.int q10]
        refine g_goto 41 O dX11_laid_36 (by decide) ?_
        exact hR _ hf _ _ dX11_laid_41
    · refine g_bipush O dX11_laid_20 (-11 : Int32) (by decide) ?_
      exact hR _ hf _ _ dX11_laid_22

set_option maxHeartbeats 4000000 in
set_option maxRecDepth 100000 in
theorem ct_X11_like {Z : ZT} (hZ : ZOk Z) {σ : Mem} {i0 : Nat} {p1 : Int32} {p2 : Int32} (h0 : kn i0 = 11) {r : (Int32 × Mem)} (hf : fX11_like σ i0 p1 p2 = some r) : Ct Z yX11_like cX11_like 5 (some .int) 2 61 [.ref (za Z i0), .int p1, .int p2] σ (some (.int r.1)) True r.2 := by
  refine ct_im hZ (by decide +kernel) (Nat.le_of_ble_eq_true rfl) hf (fun C K O hN hR hf => ?_)
  have O : Ok Z C RX11 cX11_like 5 2 61 := O
  change G Z C σ 0 [(0, .ref (za Z i0)), (1, .int p1), (2, .int p2)] []
  unfold fX11_like at hf
  refine g_aload_n O dX11_like_0 0 rfl rfl ?_
  refine g_iload_n O dX11_like_1 1 rfl rfl ?_
  obtain ⟨q1, hq1, hf⟩ := k_obd hN hf
  refine g_callV (rest := []) O dX11_like_2 (ct_X11_trayAt hZ h0 hq1) vx_RX11_261 h0 rfl rfl (by decide) (Nat.le_of_ble_eq_true rfl) (fun hp2 => ?_)
  refine k_ocs hf (fun he hf1 => ?_) (fun w3 he hf1 => ?_)
  · subst he
    have hf := hf1
    change G Z C σ 5 [(0, .ref (za Z i0)), (1, .int p1), (2, .int p2)] [.null]
    refine g_astore_nN O dX11_like_5 rfl (by decide) [(3, .null), (0, .ref (za Z i0)), (1, .int p1), (2, .int p2)] rfl ?_
    refine g_aload_n O dX11_like_6 1 rfl rfl ?_
    refine g_iload_n O dX11_like_7 3 rfl rfl ?_
    obtain ⟨q4, hq4, hf⟩ := k_obd hN hf
    refine g_callV (rest := []) O dX11_like_8 (ct_X11_trayAt hZ h0 hq4) vx_RX11_261 h0 rfl rfl (by decide) (Nat.le_of_ble_eq_true rfl) (fun hp5 => ?_)
    refine k_ocs hf (fun he hf1 => ?_) (fun w6 he hf1 => ?_)
    · subst he
      have hf := hf1
      change G Z C σ 11 [(3, .null), (0, .ref (za Z i0)), (1, .int p1), (2, .int p2)] [.null]
      refine g_astoreN O dX11_like_11 (by decide) [(4, .null), (3, .null), (0, .ref (za Z i0)), (1, .int p1), (2, .int p2)] rfl ?_
      refine g_aload_nN O dX11_like_13 1 rfl rfl ?_
      refine g_ifnullN 22 O dX11_like_14 (by decide) ?_
      refine g_bipush O dX11_like_22 (-2 : Int32) (by decide) ?_
      exact hR _ _ hf _ _ dX11_like_24
    · subst he
      have hf := hf1
      change G Z C σ 11 [(3, .null), (0, .ref (za Z i0)), (1, .int p1), (2, .int p2)] [.ref (za Z w6)]
      refine g_astoreP O dX11_like_11 (by decide) [(4, .ref (za Z w6)), (3, .null), (0, .ref (za Z i0)), (1, .int p1), (2, .int p2)] rfl ?_
      refine g_aload_nN O dX11_like_13 1 rfl rfl ?_
      refine g_ifnullN 22 O dX11_like_14 (by decide) ?_
      refine g_bipush O dX11_like_22 (-2 : Int32) (by decide) ?_
      exact hR _ _ hf _ _ dX11_like_24
  · subst he
    have hf := hf1
    change G Z C σ 5 [(0, .ref (za Z i0)), (1, .int p1), (2, .int p2)] [.ref (za Z w3)]
    refine g_astore_nP O dX11_like_5 rfl (by decide) [(3, .ref (za Z w3)), (0, .ref (za Z i0)), (1, .int p1), (2, .int p2)] rfl ?_
    refine g_aload_n O dX11_like_6 1 rfl rfl ?_
    refine g_iload_n O dX11_like_7 3 rfl rfl ?_
    obtain ⟨q7, hq7, hf⟩ := k_obd hN hf
    refine g_callV (rest := []) O dX11_like_8 (ct_X11_trayAt hZ h0 hq7) vx_RX11_261 h0 rfl rfl (by decide) (Nat.le_of_ble_eq_true rfl) (fun hp8 => ?_)
    refine k_ocs hf (fun he hf1 => ?_) (fun w9 he hf1 => ?_)
    · subst he
      have hf := hf1
      change G Z C σ 11 [(3, .ref (za Z w3)), (0, .ref (za Z i0)), (1, .int p1), (2, .int p2)] [.null]
      refine g_astoreN O dX11_like_11 (by decide) [(4, .null), (3, .ref (za Z w3)), (0, .ref (za Z i0)), (1, .int p1), (2, .int p2)] rfl ?_
      refine g_aload_n O dX11_like_13 1 rfl rfl ?_
      refine g_ifnullR O dX11_like_14 ?_
      refine g_aloadN O dX11_like_17 0 rfl ?_
      refine g_ifnonnullN O dX11_like_19 ?_
      refine g_bipush O dX11_like_22 (-2 : Int32) (by decide) ?_
      exact hR _ _ hf _ _ dX11_like_24
    · subst he
      have hf := hf1
      change G Z C σ 11 [(3, .ref (za Z w3)), (0, .ref (za Z i0)), (1, .int p1), (2, .int p2)] [.ref (za Z w9)]
      refine g_astoreP O dX11_like_11 (by decide) [(4, .ref (za Z w9)), (3, .ref (za Z w3)), (0, .ref (za Z i0)), (1, .int p1), (2, .int p2)] rfl ?_
      refine g_aload_n O dX11_like_13 1 rfl rfl ?_
      refine g_ifnullR O dX11_like_14 ?_
      refine g_aload O dX11_like_17 0 rfl ?_
      refine g_ifnonnullR 25 O dX11_like_19 (by decide) ?_
      refine g_aload O dX11_like_25 0 rfl ?_
      obtain ⟨q10, hq10, hf⟩ := k_obd hN hf
      refine g_callV (rest := []) O dX11_like_27 (ct_X9_isMissing hZ (hp8 _ rfl) hq10) vx_RX11_266 (hp8 _ rfl) rfl rfl (by decide) (Nat.le_of_ble_eq_true rfl) (fun hp11 => ?_)
      change G Z C σ 30 [(4, .ref (za Z w9)), (3, .ref (za Z w3)), (0, .ref (za Z i0)), (1, .int p1), (2, .int p2)] [.int q10]
      refine g_if_eq 36 O dX11_like_30 (by decide) hf (fun c12 hf => ?_) (fun c12 hf => ?_)
      · refine g_aload_n O dX11_like_36 1 rfl rfl ?_
        refine g_aload O dX11_like_37 0 rfl ?_
        obtain ⟨q13, hq13, hf⟩ := k_obd hN hf
        refine g_callV (rest := []) O dX11_like_39 (ct_X9_become hZ (hp2 _ rfl) (hp8 _ rfl) hq13) vx_RX11_276 (hp2 _ rfl) rfl rfl (by decide) (Nat.le_of_ble_eq_true rfl) (fun hp14 => ?_)
        change G Z C q13 42 [(4, .ref (za Z w9)), (3, .ref (za Z w3)), (0, .ref (za Z i0)), (1, .int p1), (2, .int p2)] []
        refine g_aload_n O dX11_like_42 1 rfl rfl ?_
        refine g_getI O dX11_like_43 fx_RX11_279 (hp2 _ rfl) ?_
        exact hR _ _ hf _ _ dX11_like_46
      · refine g_bipush O dX11_like_33 (-11 : Int32) (by decide) ?_
        exact hR _ _ hf _ _ dX11_like_35

set_option maxHeartbeats 4000000 in
set_option maxRecDepth 100000 in
theorem ct_X11_firstOtherwise {Z : ZT} (hZ : ZOk Z) {σ : Mem} {i0 : Nat} {i1 : Nat} (h0 : kn i0 = 11) (h1 : kn i1 = 7) {r : Int32} (hf : fX11_firstOtherwise σ i0 i1 = some r) : Ct Z yX11_firstOtherwise cX11_firstOtherwise 4 (some .int) 2 43 [.ref (za Z i0), .ref (za Z i1)] σ (some (.int r)) True σ := by
  refine ct_i hZ (by decide +kernel) (Nat.le_of_ble_eq_true rfl) hf (fun C K O hN hR hf => ?_)
  have O : Ok Z C RX11 cX11_firstOtherwise 4 2 43 := O
  change G Z C σ 0 [(0, .ref (za Z i0)), (1, .ref (za Z i1))] []
  unfold fX11_firstOtherwise at hf
  refine g_aload_n O dX11_firstOtherwise_0 1 rfl rfl ?_
  refine g_getI O dX11_firstOtherwise_1 fx_RX11_285 h1 ?_
  refine g_aload_n O dX11_firstOtherwise_4 0 rfl rfl ?_
  refine g_getR O dX11_firstOtherwise_5 fx_RX11_41 h0 ?_
  refine g_getI O dX11_firstOtherwise_8 fx_RX11_339 (kf_11_6 h0) ?_
  refine g_mmin O dX11_firstOtherwise_11 lm_RX11_341 mm_min.1 mm_min.2.1 mm_min.2.2 (by decide) (Nat.le_of_ble_eq_true rfl) ?_
  refine g_istore_n O dX11_firstOtherwise_14 rfl (by decide) (fun y => [(2, .int y), (0, .ref (za Z i0)), (1, .ref (za Z i1))]) (fun _ => rfl) hf (fun x1 hf => ?_)
  refine g_iconst O dX11_firstOtherwise_15 (0 : Int32) (by decide) ?_
  refine g_istore_nP O dX11_firstOtherwise_16 rfl (by decide) [(3, .int (0 : Int32)), (2, .int x1), (0, .ref (za Z i0)), (1, .ref (za Z i1))] rfl ?_
  refine g_lp hN (fun (a2 : Int32) => G Z C σ 17 [(3, .int a2), (2, .int x1), (0, .ref (za Z i0)), (1, .ref (za Z i1))] []) hf (fun a2 _ hN2 hI2 hX2 hf => ?_)
  unfold sX11_firstOtherwise_17 at hf
  refine g_iload_n O dX11_firstOtherwise_17 0 rfl rfl ?_
  refine g_iload_n O dX11_firstOtherwise_18 1 rfl rfl ?_
  refine g_icmp_ge 46 O dX11_firstOtherwise_19 (by decide) hf (fun c3 hf => ?_) (fun c3 hf => ?_)
  · have hf := hX2 _ hf
    refine g_aload_n O dX11_firstOtherwise_46 3 rfl rfl ?_
    refine g_getI O dX11_firstOtherwise_47 fx_RX11_285 h1 ?_
    refine g_aload_n O dX11_firstOtherwise_50 2 rfl rfl ?_
    refine g_getR O dX11_firstOtherwise_51 fx_RX11_41 h0 ?_
    refine g_getI O dX11_firstOtherwise_54 fx_RX11_339 (kf_11_6 h0) ?_
    refine g_icmp_ne 64 O dX11_firstOtherwise_57 (by decide) hf (fun c4 hf => ?_) (fun c4 hf => ?_)
    · refine g_iconst O dX11_firstOtherwise_60 (-1 : Int32) (by decide) ?_
      refine g_goto 65 O dX11_firstOtherwise_61 (by decide) ?_
      exact hR _ hf _ _ dX11_firstOtherwise_65
    · refine g_iload_n O dX11_firstOtherwise_64 1 rfl rfl ?_
      exact hR _ hf _ _ dX11_firstOtherwise_65
  · refine g_aload_n O dX11_firstOtherwise_22 3 rfl rfl ?_
    refine g_iload_n O dX11_firstOtherwise_23 0 rfl rfl ?_
    obtain ⟨q5, hq5, hf⟩ := k_obd hN2 hf
    refine g_callV (rest := []) O dX11_firstOtherwise_24 (ct_X7_at hZ h1 hq5) vx_RX11_346 h1 rfl rfl (by decide) (Nat.le_of_ble_eq_true rfl) (fun hp6 => ?_)
    change G Z C σ 27 [(3, .int a2), (2, .int x1), (0, .ref (za Z i0)), (1, .ref (za Z i1))] [.int q5]
    refine g_aload_n O dX11_firstOtherwise_27 2 rfl rfl ?_
    refine g_getR O dX11_firstOtherwise_28 fx_RX11_41 h0 ?_
    refine g_iload_n O dX11_firstOtherwise_31 0 rfl rfl ?_
    obtain ⟨q7, hq7, hf⟩ := k_obd hN2 hf
    refine g_callV (rest := [.int q5]) O dX11_firstOtherwise_32 (ct_X8_lengthOf hZ (kf_11_6 h0) hq7) vx_RX11_347 (kf_11_6 h0) rfl rfl (by decide) (Nat.le_of_ble_eq_true rfl) (fun hp8 => ?_)
    change G Z C σ 35 [(3, .int a2), (2, .int x1), (0, .ref (za Z i0)), (1, .ref (za Z i1))] [.int q7, .int q5]
    refine g_icmp_eq 40 O dX11_firstOtherwise_35 (by decide) hf (fun c9 hf => ?_) (fun c9 hf => ?_)
    · refine g_iinc O dX11_firstOtherwise_40 0 rfl (by decide) (1) (by decide) (fun y => [(3, .int y), (2, .int x1), (0, .ref (za Z i0)), (1, .ref (za Z i1))]) (fun _ => rfl) hf (fun x10 hf => ?_)
      refine g_goto 17 O dX11_firstOtherwise_43 (by decide) ?_
      exact hI2 _ hf
    · have hf := hX2 _ hf
      refine g_iload_n O dX11_firstOtherwise_38 0 rfl rfl ?_
      exact hR _ hf _ _ dX11_firstOtherwise_39

set_option maxHeartbeats 4000000 in
set_option maxRecDepth 100000 in
theorem ct_X11_moodsTold {Z : ZT} (hZ : ZOk Z) {σ : Mem} {i0 : Nat} {i1 : Nat} (h0 : kn i0 = 11) (h1 : kn i1 = 7) {r : (Int32 × Mem)} (hf : fX11_moodsTold σ i0 i1 = some r) : Ct Z yX11_moodsTold cX11_moodsTold 4 (some .int) 4 116 [.ref (za Z i0), .ref (za Z i1)] σ (some (.int r.1)) True r.2 := by
  refine ct_im hZ (by decide +kernel) (Nat.le_of_ble_eq_true rfl) hf (fun C K O hN hR hf => ?_)
  have O : Ok Z C RX11 cX11_moodsTold 4 4 116 := O
  change G Z C σ 0 [(0, .ref (za Z i0)), (1, .ref (za Z i1))] []
  unfold fX11_moodsTold at hf
  refine g_iconst O dX11_moodsTold_0 (0 : Int32) (by decide) ?_
  refine g_istore_nP O dX11_moodsTold_1 rfl (by decide) [(2, .int (0 : Int32)), (0, .ref (za Z i0)), (1, .ref (za Z i1))] rfl ?_
  refine g_iconst O dX11_moodsTold_2 (0 : Int32) (by decide) ?_
  refine g_istore_nP O dX11_moodsTold_3 rfl (by decide) [(3, .int (0 : Int32)), (2, .int (0 : Int32)), (0, .ref (za Z i0)), (1, .ref (za Z i1))] rfl ?_
  refine g_lp hN (fun (a1 : Int32 × Int32 × Mem) => G Z C a1.2.2 4 [(3, .int a1.1), (2, .int a1.2.1), (0, .ref (za Z i0)), (1, .ref (za Z i1))] []) hf (fun a1 _ hN1 hI1 hX1 hf => ?_)
  unfold sX11_moodsTold_4 at hf
  refine g_iload_n O dX11_moodsTold_4 0 rfl rfl ?_
  refine g_iconst O dX11_moodsTold_5 (4 : Int32) (by decide) ?_
  refine g_icmp_ge 64 O dX11_moodsTold_6 (by decide) hf (fun c2 hf => ?_) (fun c2 hf => ?_)
  · have hf := hX1 _ hf
    refine g_iload_n O dX11_moodsTold_64 1 rfl rfl ?_
    exact hR _ _ hf _ _ dX11_moodsTold_65
  · refine g_aload_n O dX11_moodsTold_9 2 rfl rfl ?_
    refine g_getR O dX11_moodsTold_10 fx_RX11_41 h0 ?_
    refine g_aload_n O dX11_moodsTold_13 2 rfl rfl ?_
    refine g_getR O dX11_moodsTold_14 fx_RX11_21 h0 ?_
    refine g_aload_n O dX11_moodsTold_17 2 rfl rfl ?_
    refine g_getR O dX11_moodsTold_18 fx_RX11_21 h0 ?_
    refine g_getR O dX11_moodsTold_21 fx_RX11_175 (kf_11_1 h0) ?_
    refine g_iload_n O dX11_moodsTold_24 0 rfl rfl ?_
    refine g_aload_n O dX11_moodsTold_25 2 rfl rfl ?_
    refine g_getR O dX11_moodsTold_26 fx_RX11_21 h0 ?_
    refine g_getR O dX11_moodsTold_29 fx_RX11_175 (kf_11_1 h0) ?_
    refine g_getI O dX11_moodsTold_32 fx_RX11_202 (kf_0_7 (kf_11_1 h0)) ?_
    obtain ⟨q3, hq3, hf⟩ := k_obd hN1 hf
    refine g_callV (rest := []) O dX11_moodsTold_35 (ct_X8_say hZ (kf_11_6 h0) (kf_11_1 h0) (kf_0_7 (kf_11_1 h0)) hq3) vx_RX11_328 (kf_11_6 h0) rfl rfl (by decide) (Nat.le_of_ble_eq_true rfl) (fun hp4 => ?_)
    change G Z C q3.2 38 [(3, .int a1.1), (2, .int a1.2.1), (0, .ref (za Z i0)), (1, .ref (za Z i1))] [.int q3.1]
    refine g_pop O dX11_moodsTold_38 rfl ?_
    refine g_iload_n O dX11_moodsTold_39 1 rfl rfl ?_
    refine g_aload_n O dX11_moodsTold_40 2 rfl rfl ?_
    refine g_aload_n O dX11_moodsTold_41 3 rfl rfl ?_
    obtain ⟨q5, hq5, hf⟩ := k_obd hN1 hf
    refine g_callV (rest := [.int a1.2.1]) O dX11_moodsTold_42 (ct_X11_firstOtherwise hZ h0 h1 hq5) vx_RX11_286 h0 rfl rfl (by decide) (Nat.le_of_ble_eq_true rfl) (fun hp6 => ?_)
    change G Z C q3.2 45 [(3, .int a1.1), (2, .int a1.2.1), (0, .ref (za Z i0)), (1, .ref (za Z i1))] [.int q5, .int a1.2.1]
    refine g_iconst O dX11_moodsTold_45 (-1 : Int32) (by decide) ?_
    refine g_icmp_ne 55 O dX11_moodsTold_46 (by decide) hf (fun c7 hf => ?_) (fun c7 hf => ?_)
    · refine g_iconst O dX11_moodsTold_49 (1 : Int32) (by decide) ?_
      refine g_iload_n O dX11_moodsTold_50 0 rfl rfl ?_
      refine g_ishl O dX11_moodsTold_51 ?_
      refine g_goto 56 O dX11_moodsTold_52 (by decide) ?_
      refine g_ior O dX11_moodsTold_56 ?_
      refine g_istore_n O dX11_moodsTold_57 rfl (by decide) (fun y => [(2, .int y), (3, .int a1.1), (0, .ref (za Z i0)), (1, .ref (za Z i1))]) (fun _ => rfl) hf (fun x8 hf => ?_)
      refine g_iinc O dX11_moodsTold_58 1 rfl (by decide) (1) (by decide) (fun y => [(3, .int y), (2, .int x8), (0, .ref (za Z i0)), (1, .ref (za Z i1))]) (fun _ => rfl) hf (fun x9 hf => ?_)
      refine g_goto 4 O dX11_moodsTold_61 (by decide) ?_
      exact hI1 _ hf
    · refine g_iconst O dX11_moodsTold_55 (0 : Int32) (by decide) ?_
      refine g_ior O dX11_moodsTold_56 ?_
      refine g_istore_n O dX11_moodsTold_57 rfl (by decide) (fun y => [(2, .int y), (3, .int a1.1), (0, .ref (za Z i0)), (1, .ref (za Z i1))]) (fun _ => rfl) hf (fun x10 hf => ?_)
      refine g_iinc O dX11_moodsTold_58 1 rfl (by decide) (1) (by decide) (fun y => [(3, .int y), (2, .int x10), (0, .ref (za Z i0)), (1, .ref (za Z i1))]) (fun _ => rfl) hf (fun x11 hf => ?_)
      refine g_goto 4 O dX11_moodsTold_61 (by decide) ?_
      exact hI1 _ hf

set_option maxHeartbeats 4000000 in
set_option maxRecDepth 100000 in
theorem ct_X11_numbersTold {Z : ZT} (hZ : ZOk Z) {σ : Mem} {i0 : Nat} {i1 : Nat} (h0 : kn i0 = 11) (h1 : kn i1 = 7) {r : (Int32 × Mem)} (hf : fX11_numbersTold σ i0 i1 = some r) : Ct Z yX11_numbersTold cX11_numbersTold 4 (some .int) 4 116 [.ref (za Z i0), .ref (za Z i1)] σ (some (.int r.1)) True r.2 := by
  refine ct_im hZ (by decide +kernel) (Nat.le_of_ble_eq_true rfl) hf (fun C K O hN hR hf => ?_)
  have O : Ok Z C RX11 cX11_numbersTold 4 4 116 := O
  change G Z C σ 0 [(0, .ref (za Z i0)), (1, .ref (za Z i1))] []
  unfold fX11_numbersTold at hf
  refine g_iconst O dX11_numbersTold_0 (0 : Int32) (by decide) ?_
  refine g_istore_nP O dX11_numbersTold_1 rfl (by decide) [(2, .int (0 : Int32)), (0, .ref (za Z i0)), (1, .ref (za Z i1))] rfl ?_
  refine g_iconst O dX11_numbersTold_2 (0 : Int32) (by decide) ?_
  refine g_istore_nP O dX11_numbersTold_3 rfl (by decide) [(3, .int (0 : Int32)), (2, .int (0 : Int32)), (0, .ref (za Z i0)), (1, .ref (za Z i1))] rfl ?_
  refine g_lp hN (fun (a1 : Int32 × Int32 × Mem) => G Z C a1.2.2 4 [(3, .int a1.1), (2, .int a1.2.1), (0, .ref (za Z i0)), (1, .ref (za Z i1))] []) hf (fun a1 _ hN1 hI1 hX1 hf => ?_)
  unfold sX11_numbersTold_4 at hf
  refine g_iload_n O dX11_numbersTold_4 0 rfl rfl ?_
  refine g_bipush O dX11_numbersTold_5 (8 : Int32) (by decide) ?_
  refine g_icmp_ge 65 O dX11_numbersTold_7 (by decide) hf (fun c2 hf => ?_) (fun c2 hf => ?_)
  · have hf := hX1 _ hf
    refine g_iload_n O dX11_numbersTold_65 1 rfl rfl ?_
    exact hR _ _ hf _ _ dX11_numbersTold_66
  · refine g_aload_n O dX11_numbersTold_10 2 rfl rfl ?_
    refine g_getR O dX11_numbersTold_11 fx_RX11_41 h0 ?_
    refine g_aload_n O dX11_numbersTold_14 2 rfl rfl ?_
    refine g_getR O dX11_numbersTold_15 fx_RX11_21 h0 ?_
    refine g_aload_n O dX11_numbersTold_18 2 rfl rfl ?_
    refine g_getR O dX11_numbersTold_19 fx_RX11_21 h0 ?_
    refine g_getR O dX11_numbersTold_22 fx_RX11_175 (kf_11_1 h0) ?_
    refine g_aload_n O dX11_numbersTold_25 2 rfl rfl ?_
    refine g_getR O dX11_numbersTold_26 fx_RX11_21 h0 ?_
    refine g_getR O dX11_numbersTold_29 fx_RX11_175 (kf_11_1 h0) ?_
    refine g_getI O dX11_numbersTold_32 fx_RX11_325 (kf_0_7 (kf_11_1 h0)) ?_
    refine g_iload_n O dX11_numbersTold_35 0 rfl rfl ?_
    obtain ⟨q3, hq3, hf⟩ := k_obd hN1 hf
    refine g_callV (rest := []) O dX11_numbersTold_36 (ct_X8_say hZ (kf_11_6 h0) (kf_11_1 h0) (kf_0_7 (kf_11_1 h0)) hq3) vx_RX11_328 (kf_11_6 h0) rfl rfl (by decide) (Nat.le_of_ble_eq_true rfl) (fun hp4 => ?_)
    change G Z C q3.2 39 [(3, .int a1.1), (2, .int a1.2.1), (0, .ref (za Z i0)), (1, .ref (za Z i1))] [.int q3.1]
    refine g_pop O dX11_numbersTold_39 rfl ?_
    refine g_iload_n O dX11_numbersTold_40 1 rfl rfl ?_
    refine g_aload_n O dX11_numbersTold_41 2 rfl rfl ?_
    refine g_aload_n O dX11_numbersTold_42 3 rfl rfl ?_
    obtain ⟨q5, hq5, hf⟩ := k_obd hN1 hf
    refine g_callV (rest := [.int a1.2.1]) O dX11_numbersTold_43 (ct_X11_firstOtherwise hZ h0 h1 hq5) vx_RX11_286 h0 rfl rfl (by decide) (Nat.le_of_ble_eq_true rfl) (fun hp6 => ?_)
    change G Z C q3.2 46 [(3, .int a1.1), (2, .int a1.2.1), (0, .ref (za Z i0)), (1, .ref (za Z i1))] [.int q5, .int a1.2.1]
    refine g_iconst O dX11_numbersTold_46 (-1 : Int32) (by decide) ?_
    refine g_icmp_ne 56 O dX11_numbersTold_47 (by decide) hf (fun c7 hf => ?_) (fun c7 hf => ?_)
    · refine g_iconst O dX11_numbersTold_50 (1 : Int32) (by decide) ?_
      refine g_iload_n O dX11_numbersTold_51 0 rfl rfl ?_
      refine g_ishl O dX11_numbersTold_52 ?_
      refine g_goto 57 O dX11_numbersTold_53 (by decide) ?_
      refine g_ior O dX11_numbersTold_57 ?_
      refine g_istore_n O dX11_numbersTold_58 rfl (by decide) (fun y => [(2, .int y), (3, .int a1.1), (0, .ref (za Z i0)), (1, .ref (za Z i1))]) (fun _ => rfl) hf (fun x8 hf => ?_)
      refine g_iinc O dX11_numbersTold_59 1 rfl (by decide) (1) (by decide) (fun y => [(3, .int y), (2, .int x8), (0, .ref (za Z i0)), (1, .ref (za Z i1))]) (fun _ => rfl) hf (fun x9 hf => ?_)
      refine g_goto 4 O dX11_numbersTold_62 (by decide) ?_
      exact hI1 _ hf
    · refine g_iconst O dX11_numbersTold_56 (0 : Int32) (by decide) ?_
      refine g_ior O dX11_numbersTold_57 ?_
      refine g_istore_n O dX11_numbersTold_58 rfl (by decide) (fun y => [(2, .int y), (3, .int a1.1), (0, .ref (za Z i0)), (1, .ref (za Z i1))]) (fun _ => rfl) hf (fun x10 hf => ?_)
      refine g_iinc O dX11_numbersTold_59 1 rfl (by decide) (1) (by decide) (fun y => [(3, .int y), (2, .int x10), (0, .ref (za Z i0)), (1, .ref (za Z i1))]) (fun _ => rfl) hf (fun x11 hf => ?_)
      refine g_goto 4 O dX11_numbersTold_62 (by decide) ?_
      exact hI1 _ hf

set_option maxHeartbeats 4000000 in
set_option maxRecDepth 100000 in
theorem ct_X11_sheetAt {Z : ZT} (hZ : ZOk Z) {σ : Mem} {i0 : Nat} {p1 : Int32} (h0 : kn i0 = 11) {r : (Option Nat)} (hf : fX11_sheetAt σ i0 p1 = some r) : Ct Z yX11_sheetAt cX11_sheetAt 2 (some (.object "PhraseMoods$Sheet")) 0 0 [.ref (za Z i0), .int p1] σ (some (rv Z r)) (∀ i, r = some i → kn i = 7) σ := by
  refine ct_a 7 hZ (by decide +kernel) (Nat.le_of_ble_eq_true rfl) hf (fun C K O hN hR0 hR1 hf => ?_)
  have O : Ok Z C RX11 cX11_sheetAt 2 0 0 := O
  change G Z C σ 0 [(0, .ref (za Z i0)), (1, .int p1)] []
  unfold fX11_sheetAt at hf
  refine g_iload_n O dX11_sheetAt_0 1 rfl rfl ?_
  refine g_if_lt 22 O dX11_sheetAt_1 (by decide) hf (fun c1 hf => ?_) (fun c1 hf => ?_)
  · refine g_null O dX11_sheetAt_22 ?_
    exact hR0 hf _ _ dX11_sheetAt_23
  · refine g_iload_n O dX11_sheetAt_4 1 rfl rfl ?_
    refine g_aload_n O dX11_sheetAt_5 0 rfl rfl ?_
    refine g_getR O dX11_sheetAt_6 fx_RX11_61 h0 ?_
    refine g_alen O dX11_sheetAt_9 (kf_11_9 h0) (by decide) ?_
    refine g_icmp_ge 22 O dX11_sheetAt_10 (by decide) hf (fun c2 hf => ?_) (fun c2 hf => ?_)
    · refine g_null O dX11_sheetAt_22 ?_
      exact hR0 hf _ _ dX11_sheetAt_23
    · refine g_aload_n O dX11_sheetAt_13 0 rfl rfl ?_
      refine g_getR O dX11_sheetAt_14 fx_RX11_61 h0 ?_
      refine g_iload_n O dX11_sheetAt_17 1 rfl rfl ?_
      refine g_aald O hN dX11_sheetAt_18 (kf_11_9 h0) (by decide) (el_24 (kf_11_9 h0)) hf (fun hb3 hf => ?_)
      refine g_goto 23 O dX11_sheetAt_19 (by decide) ?_
      exact hR1 _ hf (ke_24 (kf_11_9 h0) (inb_lt hb3)) _ _ dX11_sheetAt_23

set_option maxHeartbeats 4000000 in
set_option maxRecDepth 100000 in
theorem ct_X11_tells {Z : ZT} (hZ : ZOk Z) {σ : Mem} {i0 : Nat} {p1 : Int32} {p2 : Int32} (h0 : kn i0 = 11) {r : (Int32 × Mem)} (hf : fX11_tells σ i0 p1 p2 = some r) : Ct Z yX11_tells cX11_tells 4 (some .int) 5 139 [.ref (za Z i0), .int p1, .int p2] σ (some (.int r.1)) True r.2 := by
  refine ct_im hZ (by decide +kernel) (Nat.le_of_ble_eq_true rfl) hf (fun C K O hN hR hf => ?_)
  have O : Ok Z C RX11 cX11_tells 4 5 139 := O
  change G Z C σ 0 [(0, .ref (za Z i0)), (1, .int p1), (2, .int p2)] []
  unfold fX11_tells at hf
  refine g_aload_n O dX11_tells_0 0 rfl rfl ?_
  refine g_iload_n O dX11_tells_1 1 rfl rfl ?_
  obtain ⟨q1, hq1, hf⟩ := k_obd hN hf
  refine g_callV (rest := []) O dX11_tells_2 (ct_X11_sheetAt hZ h0 hq1) vx_RX11_280 h0 rfl rfl (by decide) (Nat.le_of_ble_eq_true rfl) (fun hp2 => ?_)
  refine k_ocs hf (fun he hf1 => ?_) (fun w3 he hf1 => ?_)
  · subst he
    have hf := hf1
    change G Z C σ 5 [(0, .ref (za Z i0)), (1, .int p1), (2, .int p2)] [.null]
    refine g_astore_nN O dX11_tells_5 rfl (by decide) [(3, .null), (0, .ref (za Z i0)), (1, .int p1), (2, .int p2)] rfl ?_
    refine g_aload_nN O dX11_tells_6 0 rfl rfl ?_
    refine g_ifnullN 19 O dX11_tells_7 (by decide) ?_
    refine g_bipush O dX11_tells_19 (-2 : Int32) (by decide) ?_
    exact hR _ _ hf _ _ dX11_tells_21
  · subst he
    have hf := hf1
    change G Z C σ 5 [(0, .ref (za Z i0)), (1, .int p1), (2, .int p2)] [.ref (za Z w3)]
    refine g_astore_nP O dX11_tells_5 rfl (by decide) [(3, .ref (za Z w3)), (0, .ref (za Z i0)), (1, .int p1), (2, .int p2)] rfl ?_
    refine g_aload_n O dX11_tells_6 0 rfl rfl ?_
    refine g_ifnullR O dX11_tells_7 ?_
    refine g_iload_n O dX11_tells_10 3 rfl rfl ?_
    refine g_if_lt 19 O dX11_tells_11 (by decide) hf (fun c4 hf => ?_) (fun c4 hf => ?_)
    · refine g_bipush O dX11_tells_19 (-2 : Int32) (by decide) ?_
      exact hR _ _ hf _ _ dX11_tells_21
    · refine g_iload_n O dX11_tells_14 3 rfl rfl ?_
      refine g_iconst O dX11_tells_15 (2 : Int32) (by decide) ?_
      refine g_icmp_le 22 O dX11_tells_16 (by decide) hf (fun c5 hf => ?_) (fun c5 hf => ?_)
      · refine g_aload_n O dX11_tells_22 0 rfl rfl ?_
        obtain ⟨q6, hq6, hf⟩ := k_obd hN hf
        refine g_callV (rest := []) O dX11_tells_23 (ct_X7_isMissing hZ (hp2 _ rfl) hq6) vx_RX11_284 (hp2 _ rfl) rfl rfl (by decide) (Nat.le_of_ble_eq_true rfl) (fun hp7 => ?_)
        change G Z C σ 26 [(3, .ref (za Z w3)), (0, .ref (za Z i0)), (1, .int p1), (2, .int p2)] [.int q6]
        refine g_if_eq 32 O dX11_tells_26 (by decide) hf (fun c8 hf => ?_) (fun c8 hf => ?_)
        · refine g_aload_n O dX11_tells_32 0 rfl rfl ?_
          refine g_getI O dX11_tells_33 fx_RX11_285 (hp2 _ rfl) ?_
          refine g_bipush O dX11_tells_36 (6 : Int32) (by decide) ?_
          refine g_icmp_le 44 O dX11_tells_38 (by decide) hf (fun c9 hf => ?_) (fun c9 hf => ?_)
          · refine g_aload_n O dX11_tells_44 1 rfl rfl ?_
            obtain ⟨q10, hq10, hf⟩ := k_obd hN hf
            refine g_callV (rest := []) O dX11_tells_45 (ct_X11_sayDesk hZ h0 hq10) vx_RX11_205 h0 rfl rfl (by decide) (Nat.le_of_ble_eq_true rfl) (fun hp11 => ?_)
            change G Z C q10.2 48 [(3, .ref (za Z w3)), (0, .ref (za Z i0)), (1, .int p1), (2, .int p2)] [.int q10.1]
            refine g_if_ne 54 O dX11_tells_48 (by decide) hf (fun c12 hf => ?_) (fun c12 hf => ?_)
            · refine g_bipush O dX11_tells_51 (-3 : Int32) (by decide) ?_
              exact hR _ _ hf _ _ dX11_tells_53
            · refine g_iload_n O dX11_tells_54 3 rfl rfl ?_
              refine g_if_ne 66 O dX11_tells_55 (by decide) hf (fun c13 hf => ?_) (fun c13 hf => ?_)
              · refine g_aload_n O dX11_tells_58 1 rfl rfl ?_
                refine g_aload_n O dX11_tells_59 0 rfl rfl ?_
                obtain ⟨q14, hq14, hf⟩ := k_obd hN hf
                refine g_callV (rest := []) O dX11_tells_60 (ct_X11_firstOtherwise hZ h0 (hp2 _ rfl) hq14) vx_RX11_286 h0 rfl rfl (by decide) (Nat.le_of_ble_eq_true rfl) (fun hp15 => ?_)
                change G Z C q10.2 63 [(3, .ref (za Z w3)), (0, .ref (za Z i0)), (1, .int p1), (2, .int p2)] [.int q14]
                refine g_goto 84 O dX11_tells_63 (by decide) ?_
                exact hR _ _ hf _ _ dX11_tells_84
              · refine g_iload_n O dX11_tells_66 3 rfl rfl ?_
                refine g_iconst O dX11_tells_67 (1 : Int32) (by decide) ?_
                refine g_icmp_ne 79 O dX11_tells_68 (by decide) hf (fun c16 hf => ?_) (fun c16 hf => ?_)
                · refine g_aload_n O dX11_tells_71 1 rfl rfl ?_
                  refine g_aload_n O dX11_tells_72 0 rfl rfl ?_
                  obtain ⟨q17, hq17, hf⟩ := k_obd hN hf
                  refine g_callV (rest := []) O dX11_tells_73 (ct_X11_moodsTold hZ h0 (hp2 _ rfl) hq17) vx_RX11_290 h0 rfl rfl (by decide) (Nat.le_of_ble_eq_true rfl) (fun hp18 => ?_)
                  change G Z C q17.2 76 [(3, .ref (za Z w3)), (0, .ref (za Z i0)), (1, .int p1), (2, .int p2)] [.int q17.1]
                  refine g_goto 84 O dX11_tells_76 (by decide) ?_
                  exact hR _ _ hf _ _ dX11_tells_84
                · refine g_aload_n O dX11_tells_79 1 rfl rfl ?_
                  refine g_aload_n O dX11_tells_80 0 rfl rfl ?_
                  obtain ⟨q19, hq19, hf⟩ := k_obd hN hf
                  refine g_callV (rest := []) O dX11_tells_81 (ct_X11_numbersTold hZ h0 (hp2 _ rfl) hq19) vx_RX11_293 h0 rfl rfl (by decide) (Nat.le_of_ble_eq_true rfl) (fun hp20 => ?_)
                  change G Z C q19.2 84 [(3, .ref (za Z w3)), (0, .ref (za Z i0)), (1, .int p1), (2, .int p2)] [.int q19.1]
                  exact hR _ _ hf _ _ dX11_tells_84
          · refine g_bipush O dX11_tells_41 (-2 : Int32) (by decide) ?_
            exact hR _ _ hf _ _ dX11_tells_43
        · refine g_bipush O dX11_tells_29 (-11 : Int32) (by decide) ?_
          exact hR _ _ hf _ _ dX11_tells_31
      · refine g_bipush O dX11_tells_19 (-2 : Int32) (by decide) ?_
        exact hR _ _ hf _ _ dX11_tells_21

set_option maxHeartbeats 4000000 in
set_option maxRecDepth 100000 in
theorem ct_X11_image {Z : ZT} (hZ : ZOk Z) {σ : Mem} {i0 : Nat} (h0 : kn i0 = 11) {r : (Int32 × Mem)} (hf : fX11_image σ i0 = some r) : Ct Z yX11_image cX11_image 1 (some .int) 5 128 [.ref (za Z i0)] σ (some (.int r.1)) True r.2 := by
  refine ct_im hZ (by decide +kernel) (Nat.le_of_ble_eq_true rfl) hf (fun C K O hN hR hf => ?_)
  have O : Ok Z C RX11 cX11_image 1 5 128 := O
  change G Z C σ 0 [(0, .ref (za Z i0))] []
  unfold fX11_image at hf
  refine g_aload_n O dX11_image_0 0 rfl rfl ?_
  refine g_getR O dX11_image_1 fx_RX11_25 h0 ?_
  refine g_aload_n O dX11_image_4 0 rfl rfl ?_
  refine g_getR O dX11_image_5 fx_RX11_21 h0 ?_
  obtain ⟨q1, hq1, hf⟩ := k_obd hN hf
  refine g_callV (rest := []) O dX11_image_8 (ct_X0_become hZ (kf_11_2 h0) (kf_11_1 h0) hq1) vx_RX11_296 (kf_11_2 h0) rfl rfl (by decide) (Nat.le_of_ble_eq_true rfl) (fun hp2 => ?_)
  change G Z C q1 11 [(0, .ref (za Z i0))] []
  refine g_aload_n O dX11_image_11 0 rfl rfl ?_
  refine g_iconst O dX11_image_12 (1 : Int32) (by decide) ?_
  refine g_put O dX11_image_13 fp_RX11_299 h0 rfl rfl hf (fun m3 hf => ?_)
  refine g_aload_n O dX11_image_16 0 rfl rfl ?_
  refine g_getR O dX11_image_17 fx_RX11_25 h0 ?_
  refine g_getI O dX11_image_20 fx_RX11_303 (kf_11_2 h0) ?_
  exact hR _ _ hf _ _ dX11_image_23

set_option maxHeartbeats 4000000 in
set_option maxRecDepth 100000 in
theorem ct_X11_back {Z : ZT} (hZ : ZOk Z) {σ : Mem} {i0 : Nat} (h0 : kn i0 = 11) {r : (Int32 × Mem)} (hf : fX11_back σ i0 = some r) : Ct Z yX11_back cX11_back 1 (some .int) 5 128 [.ref (za Z i0)] σ (some (.int r.1)) True r.2 := by
  refine ct_im hZ (by decide +kernel) (Nat.le_of_ble_eq_true rfl) hf (fun C K O hN hR hf => ?_)
  have O : Ok Z C RX11 cX11_back 1 5 128 := O
  change G Z C σ 0 [(0, .ref (za Z i0))] []
  unfold fX11_back at hf
  refine g_aload_n O dX11_back_0 0 rfl rfl ?_
  refine g_getI O dX11_back_1 fx_RX11_299 h0 ?_
  refine g_if_ne 10 O dX11_back_4 (by decide) hf (fun c1 hf => ?_) (fun c1 hf => ?_)
  · refine g_bipush O dX11_back_7 (-3 : Int32) (by decide) ?_
    exact hR _ _ hf _ _ dX11_back_9
  · refine g_aload_n O dX11_back_10 0 rfl rfl ?_
    refine g_getR O dX11_back_11 fx_RX11_21 h0 ?_
    refine g_aload_n O dX11_back_14 0 rfl rfl ?_
    refine g_getR O dX11_back_15 fx_RX11_25 h0 ?_
    obtain ⟨q2, hq2, hf⟩ := k_obd hN hf
    refine g_callV (rest := []) O dX11_back_18 (ct_X0_become hZ (kf_11_1 h0) (kf_11_2 h0) hq2) vx_RX11_296 (kf_11_1 h0) rfl rfl (by decide) (Nat.le_of_ble_eq_true rfl) (fun hp3 => ?_)
    change G Z C q2 21 [(0, .ref (za Z i0))] []
    refine g_aload_n O dX11_back_21 0 rfl rfl ?_
    refine g_getR O dX11_back_22 fx_RX11_21 h0 ?_
    refine g_getI O dX11_back_25 fx_RX11_303 (kf_11_1 h0) ?_
    exact hR _ _ hf _ _ dX11_back_28

