set_option maxHeartbeats 4000000 in
set_option maxRecDepth 100000 in
theorem ct_X11_drawn {Z : ZT} (hZ : ZOk Z) {σ : Mem} {i0 : Nat} {p1 : Int32} {p2 : Int32} (h0 : kn i0 = 11) {r : (Int32 × Mem)} (hf : fX11_drawn σ i0 p1 p2 = some r) : Ct Z yX11_drawn cX11_drawn 3 (some .int) 7 198 [.ref (za Z i0), .int p1, .int p2] σ (some (.int r.1)) True r.2 := by
  refine ct_im hZ (by decide +kernel) (Nat.le_of_ble_eq_true rfl) hf (fun C K O hN hR hf => ?_)
  have O : Ok Z C RX11 cX11_drawn 3 7 198 := O
  change G Z C σ 0 [(0, .ref (za Z i0)), (1, .int p1), (2, .int p2)] []
  unfold fX11_drawn at hf
  refine g_iload_n O dX11_drawn_0 2 rfl rfl ?_
  refine g_if_lt 9 O dX11_drawn_1 (by decide) hf (fun c1 hf => ?_) (fun c1 hf => ?_)
  · refine g_bipush O dX11_drawn_9 (-2 : Int32) (by decide) ?_
    exact hR _ _ hf _ _ dX11_drawn_11
  · refine g_iload_n O dX11_drawn_4 2 rfl rfl ?_
    refine g_iconst O dX11_drawn_5 (1 : Int32) (by decide) ?_
    refine g_icmp_le 12 O dX11_drawn_6 (by decide) hf (fun c2 hf => ?_) (fun c2 hf => ?_)
    · refine g_aload_n O dX11_drawn_12 0 rfl rfl ?_
      refine g_getR O dX11_drawn_13 fx_RX11_21 h0 ?_
      refine g_getI O dX11_drawn_16 fx_RX11_251 (kf_11_1 h0) ?_
      refine g_if_ne 25 O dX11_drawn_19 (by decide) hf (fun c3 hf => ?_) (fun c3 hf => ?_)
      · refine g_bipush O dX11_drawn_22 (-3 : Int32) (by decide) ?_
        exact hR _ _ hf _ _ dX11_drawn_24
      · refine g_aload_n O dX11_drawn_25 0 rfl rfl ?_
        refine g_iload_n O dX11_drawn_26 1 rfl rfl ?_
        obtain ⟨q4, hq4, hf⟩ := k_obd hN hf
        refine g_callV (rest := []) O dX11_drawn_27 (ct_X11_sayDrawn hZ h0 hq4) vx_RX11_254 h0 rfl rfl (by decide) (Nat.le_of_ble_eq_true rfl) (fun hp5 => ?_)
        change G Z C q4.2 30 [(0, .ref (za Z i0)), (1, .int p1), (2, .int p2)] [.int q4.1]
        refine g_if_ne 35 O dX11_drawn_30 (by decide) hf (fun c6 hf => ?_) (fun c6 hf => ?_)
        · refine g_iconst O dX11_drawn_33 (0 : Int32) (by decide) ?_
          exact hR _ _ hf _ _ dX11_drawn_34
        · refine g_iload_n O dX11_drawn_35 2 rfl rfl ?_
          refine g_iconst O dX11_drawn_36 (1 : Int32) (by decide) ?_
          refine g_icmp_ne 51 O dX11_drawn_37 (by decide) hf (fun c7 hf => ?_) (fun c7 hf => ?_)
          · refine g_aload_n O dX11_drawn_40 0 rfl rfl ?_
            refine g_getR O dX11_drawn_41 fx_RX11_41 h0 ?_
            refine g_getR O dX11_drawn_44 fx_RX11_208 (kf_11_6 h0) ?_
            refine g_getI O dX11_drawn_47 fx_RX11_77 (kf_8_1 (kf_11_6 h0)) ?_
            exact hR _ _ hf _ _ dX11_drawn_50
          · refine g_aload_n O dX11_drawn_51 0 rfl rfl ?_
            refine g_getR O dX11_drawn_52 fx_RX11_55 h0 ?_
            refine g_aload_n O dX11_drawn_55 0 rfl rfl ?_
            refine g_getR O dX11_drawn_56 fx_RX11_21 h0 ?_
            refine g_aload_n O dX11_drawn_59 0 rfl rfl ?_
            refine g_getR O dX11_drawn_60 fx_RX11_41 h0 ?_
            refine g_getR O dX11_drawn_63 fx_RX11_208 (kf_11_6 h0) ?_
            obtain ⟨q8, hq8, hf⟩ := k_obd hN hf
            refine g_callV (rest := []) O dX11_drawn_66 (ct_X6_countReadings hZ (kf_11_8 h0) (kf_11_1 h0) (kf_8_1 (kf_11_6 h0)) hq8) vx_RX11_229 (kf_11_8 h0) rfl rfl (by decide) (Nat.le_of_ble_eq_true rfl) (fun hp9 => ?_)
            change G Z C q8 69 [(0, .ref (za Z i0)), (1, .int p1), (2, .int p2)] []
            refine g_aload_n O dX11_drawn_69 0 rfl rfl ?_
            refine g_getR O dX11_drawn_70 fx_RX11_55 h0 ?_
            refine g_getI O dX11_drawn_73 fx_RX11_233 (kf_11_8 h0) ?_
            exact hR _ _ hf _ _ dX11_drawn_76
    · refine g_bipush O dX11_drawn_9 (-2 : Int32) (by decide) ?_
      exact hR _ _ hf _ _ dX11_drawn_11

set_option maxHeartbeats 4000000 in
set_option maxRecDepth 100000 in
theorem ct_X11_commonDivisor {Z : ZT} (hZ : ZOk Z) {σ : Mem} {p0 : Int32} {p1 : Int32}  {r : Int32} (hf : fX11_commonDivisor σ p0 p1 = some r) : Ct Z yX11_commonDivisor cX11_commonDivisor 4 (some .int) 0 0 [.int p0, .int p1] σ (some (.int r)) True σ := by
  refine ct_i hZ (by decide +kernel) (Nat.le_of_ble_eq_true rfl) hf (fun C K O hN hR hf => ?_)
  have O : Ok Z C RX11 cX11_commonDivisor 4 0 0 := O
  change G Z C σ 0 [(0, .int p0), (1, .int p1)] []
  unfold fX11_commonDivisor at hf
  refine g_iconst O dX11_commonDivisor_0 (1 : Int32) (by decide) ?_
  refine g_istore_nP O dX11_commonDivisor_1 rfl (by decide) [(2, .int (1 : Int32)), (0, .int p0), (1, .int p1)] rfl ?_
  refine g_iconst O dX11_commonDivisor_2 (2 : Int32) (by decide) ?_
  refine g_istore_nP O dX11_commonDivisor_3 rfl (by decide) [(3, .int (2 : Int32)), (2, .int (1 : Int32)), (0, .int p0), (1, .int p1)] rfl ?_
  refine g_lp hN (fun (a1 : Int32 × Int32) => G Z C σ 4 [(3, .int a1.1), (2, .int a1.2), (0, .int p0), (1, .int p1)] []) hf (fun a1 _ hN1 hI1 hX1 hf => ?_)
  unfold sX11_commonDivisor_4 at hf
  refine g_iload_n O dX11_commonDivisor_4 0 rfl rfl ?_
  refine g_bipush O dX11_commonDivisor_5 (8 : Int32) (by decide) ?_
  refine g_icmp_gt 30 O dX11_commonDivisor_7 (by decide) hf (fun c2 hf => ?_) (fun c2 hf => ?_)
  · have hf := hX1 _ hf
    refine g_iload_n O dX11_commonDivisor_30 1 rfl rfl ?_
    exact hR _ hf _ _ dX11_commonDivisor_31
  · refine g_iload_n O dX11_commonDivisor_10 2 rfl rfl ?_
    refine g_iload_n O dX11_commonDivisor_11 0 rfl rfl ?_
    refine g_irem O hN1 dX11_commonDivisor_12 hf (fun hf => ?_)
    refine g_if_ne 24 O dX11_commonDivisor_13 (by decide) hf (fun c3 hf => ?_) (fun c3 hf => ?_)
    · refine g_iload_n O dX11_commonDivisor_16 3 rfl rfl ?_
      refine g_iload_n O dX11_commonDivisor_17 0 rfl rfl ?_
      refine g_irem O hN1 dX11_commonDivisor_18 hf (fun hf => ?_)
      refine g_if_ne 24 O dX11_commonDivisor_19 (by decide) hf (fun c4 hf => ?_) (fun c4 hf => ?_)
      · refine g_iload_n O dX11_commonDivisor_22 0 rfl rfl ?_
        refine g_istore_nP O dX11_commonDivisor_23 rfl (by decide) [(2, .int a1.1), (3, .int a1.1), (0, .int p0), (1, .int p1)] rfl ?_
        refine g_iinc O dX11_commonDivisor_24 1 rfl (by decide) (1) (by decide) (fun y => [(3, .int y), (2, .int a1.1), (0, .int p0), (1, .int p1)]) (fun _ => rfl) hf (fun x5 hf => ?_)
        refine g_goto 4 O dX11_commonDivisor_27 (by decide) ?_
        exact hI1 _ hf
      · refine g_iinc O dX11_commonDivisor_24 0 rfl (by decide) (1) (by decide) (fun y => [(3, .int y), (2, .int a1.2), (0, .int p0), (1, .int p1)]) (fun _ => rfl) hf (fun x6 hf => ?_)
        refine g_goto 4 O dX11_commonDivisor_27 (by decide) ?_
        exact hI1 _ hf
    · refine g_iinc O dX11_commonDivisor_24 0 rfl (by decide) (1) (by decide) (fun y => [(3, .int y), (2, .int a1.2), (0, .int p0), (1, .int p1)]) (fun _ => rfl) hf (fun x7 hf => ?_)
      refine g_goto 4 O dX11_commonDivisor_27 (by decide) ?_
      exact hI1 _ hf

set_option maxHeartbeats 4000000 in
set_option maxRecDepth 100000 in
theorem ct_X11_chance {Z : ZT} (hZ : ZOk Z) {σ : Mem} {i0 : Nat} {p1 : Int32} {p2 : Int32} {p3 : Int32} (h0 : kn i0 = 11) {r : (Int32 × Mem)} (hf : fX11_chance σ i0 p1 p2 p3 = some r) : Ct Z yX11_chance cX11_chance 6 (some .int) 7 198 [.ref (za Z i0), .int p1, .int p2, .int p3] σ (some (.int r.1)) True r.2 := by
  refine ct_im hZ (by decide +kernel) (Nat.le_of_ble_eq_true rfl) hf (fun C K O hN hR hf => ?_)
  have O : Ok Z C RX11 cX11_chance 6 7 198 := O
  change G Z C σ 0 [(0, .ref (za Z i0)), (1, .int p1), (2, .int p2), (3, .int p3)] []
  unfold fX11_chance at hf
  refine g_iload_n O dX11_chance_0 2 rfl rfl ?_
  refine g_iconst O dX11_chance_1 (1 : Int32) (by decide) ?_
  refine g_icmp_lt 20 O dX11_chance_2 (by decide) hf (fun c1 hf => ?_) (fun c1 hf => ?_)
  · refine g_bipush O dX11_chance_20 (-2 : Int32) (by decide) ?_
    exact hR _ _ hf _ _ dX11_chance_22
  · refine g_iload_n O dX11_chance_5 2 rfl rfl ?_
    refine g_bipush O dX11_chance_6 (8 : Int32) (by decide) ?_
    refine g_icmp_gt 20 O dX11_chance_8 (by decide) hf (fun c2 hf => ?_) (fun c2 hf => ?_)
    · refine g_bipush O dX11_chance_20 (-2 : Int32) (by decide) ?_
      exact hR _ _ hf _ _ dX11_chance_22
    · refine g_iload_n O dX11_chance_11 3 rfl rfl ?_
      refine g_if_lt 20 O dX11_chance_12 (by decide) hf (fun c3 hf => ?_) (fun c3 hf => ?_)
      · refine g_bipush O dX11_chance_20 (-2 : Int32) (by decide) ?_
        exact hR _ _ hf _ _ dX11_chance_22
      · refine g_iload_n O dX11_chance_15 3 rfl rfl ?_
        refine g_iconst O dX11_chance_16 (1 : Int32) (by decide) ?_
        refine g_icmp_le 23 O dX11_chance_17 (by decide) hf (fun c4 hf => ?_) (fun c4 hf => ?_)
        · refine g_aload_n O dX11_chance_23 0 rfl rfl ?_
          refine g_getR O dX11_chance_24 fx_RX11_21 h0 ?_
          refine g_getI O dX11_chance_27 fx_RX11_251 (kf_11_1 h0) ?_
          refine g_if_ne 36 O dX11_chance_30 (by decide) hf (fun c5 hf => ?_) (fun c5 hf => ?_)
          · refine g_bipush O dX11_chance_33 (-3 : Int32) (by decide) ?_
            exact hR _ _ hf _ _ dX11_chance_35
          · refine g_iconst O dX11_chance_36 (0 : Int32) (by decide) ?_
            refine g_istoreP O dX11_chance_37 (by decide) [(4, .int (0 : Int32)), (0, .ref (za Z i0)), (1, .int p1), (2, .int p2), (3, .int p3)] rfl ?_
            refine g_iconst O dX11_chance_39 (0 : Int32) (by decide) ?_
            refine g_istoreP O dX11_chance_40 (by decide) [(5, .int (0 : Int32)), (4, .int (0 : Int32)), (0, .ref (za Z i0)), (1, .int p1), (2, .int p2), (3, .int p3)] rfl ?_
            refine g_lp hN (fun (a6 : Int32 × Int32 × Mem) => G Z C a6.2.2 42 [(5, .int a6.1), (4, .int a6.2.1), (0, .ref (za Z i0)), (1, .int p1), (2, .int p2), (3, .int p3)] []) hf (fun a6 _ hN6 hI6 hX6 hf => ?_)
            unfold sX11_chance_42 at hf
            refine g_iload O dX11_chance_42 0 rfl ?_
            refine g_iload_n O dX11_chance_44 4 rfl rfl ?_
            refine g_icmp_ge 104 O dX11_chance_45 (by decide) hf (fun c7 hf => ?_) (fun c7 hf => ?_)
            · have hf := hX6 _ hf
              refine g_iload O dX11_chance_104 1 rfl ?_
              refine g_iload_n O dX11_chance_106 4 rfl rfl ?_
              obtain ⟨q8, hq8, hf⟩ := k_obd hN hf
              refine g_callS (rest := []) O dX11_chance_107 (ct_X11_commonDivisor hZ  hq8) sx_RX11_257 rfl rfl (by decide) (Nat.le_of_ble_eq_true rfl) (fun hp9 => ?_)
              change G Z C a6.2.2 110 [(5, .int a6.1), (4, .int a6.2.1), (0, .ref (za Z i0)), (1, .int p1), (2, .int p2), (3, .int p3)] [.int q8]
              refine g_istoreP O dX11_chance_110 (by decide) [(5, .int q8), (4, .int a6.2.1), (0, .ref (za Z i0)), (1, .int p1), (2, .int p2), (3, .int p3)] rfl ?_
              refine g_iload_n O dX11_chance_112 5 rfl rfl ?_
              refine g_if_ne 121 O dX11_chance_113 (by decide) hf (fun c10 hf => ?_) (fun c10 hf => ?_)
              · refine g_iload O dX11_chance_116 1 rfl ?_
                refine g_goto 122 O dX11_chance_118 (by decide) ?_
                refine g_iload O dX11_chance_122 0 rfl ?_
                refine g_idiv O hN dX11_chance_124 hf (fun hf => ?_)
                exact hR _ _ hf _ _ dX11_chance_125
              · refine g_iload_n O dX11_chance_121 4 rfl rfl ?_
                refine g_iload O dX11_chance_122 0 rfl ?_
                refine g_idiv O hN dX11_chance_124 hf (fun hf => ?_)
                exact hR _ _ hf _ _ dX11_chance_125
            · refine g_aload_n O dX11_chance_48 2 rfl rfl ?_
              refine g_iload_n O dX11_chance_49 3 rfl rfl ?_
              refine g_iload O dX11_chance_50 0 rfl ?_
              refine g_iadd O dX11_chance_52 ?_
              obtain ⟨q11, hq11, hf⟩ := k_obd hN6 hf
              refine g_callV (rest := []) O dX11_chance_53 (ct_X11_sayDrawn hZ h0 hq11) vx_RX11_254 h0 rfl rfl (by decide) (Nat.le_of_ble_eq_true rfl) (fun hp12 => ?_)
              change G Z C q11.2 56 [(5, .int a6.1), (4, .int a6.2.1), (0, .ref (za Z i0)), (1, .int p1), (2, .int p2), (3, .int p3)] [.int q11.1]
              refine g_if_eq 98 O dX11_chance_56 (by decide) hf (fun c13 hf => ?_) (fun c13 hf => ?_)
              · refine g_iinc O dX11_chance_98 0 rfl (by decide) (1) (by decide) (fun y => [(5, .int y), (4, .int a6.2.1), (0, .ref (za Z i0)), (1, .int p1), (2, .int p2), (3, .int p3)]) (fun _ => rfl) hf (fun x14 hf => ?_)
                refine g_goto 42 O dX11_chance_101 (by decide) ?_
                exact hI6 _ hf
              · refine g_aload_n O dX11_chance_59 2 rfl rfl ?_
                refine g_getR O dX11_chance_60 fx_RX11_55 h0 ?_
                refine g_aload_n O dX11_chance_63 2 rfl rfl ?_
                refine g_getR O dX11_chance_64 fx_RX11_21 h0 ?_
                refine g_aload_n O dX11_chance_67 2 rfl rfl ?_
                refine g_getR O dX11_chance_68 fx_RX11_41 h0 ?_
                refine g_getR O dX11_chance_71 fx_RX11_208 (kf_11_6 h0) ?_
                obtain ⟨q15, hq15, hf⟩ := k_obd hN6 hf
                refine g_callV (rest := []) O dX11_chance_74 (ct_X6_countReadings hZ (kf_11_8 h0) (kf_11_1 h0) (kf_8_1 (kf_11_6 h0)) hq15) vx_RX11_229 (kf_11_8 h0) rfl rfl (by decide) (Nat.le_of_ble_eq_true rfl) (fun hp16 => ?_)
                change G Z C q15 77 [(5, .int a6.1), (4, .int a6.2.1), (0, .ref (za Z i0)), (1, .int p1), (2, .int p2), (3, .int p3)] []
                refine g_iload O dX11_chance_77 1 rfl ?_
                refine g_aload_n O dX11_chance_79 2 rfl rfl ?_
                refine g_getR O dX11_chance_80 fx_RX11_55 h0 ?_
                refine g_getI O dX11_chance_83 fx_RX11_233 (kf_11_8 h0) ?_
                refine g_iconst O dX11_chance_86 (1 : Int32) (by decide) ?_
                refine g_icmp_ne 94 O dX11_chance_87 (by decide) hf (fun c17 hf => ?_) (fun c17 hf => ?_)
                · refine g_iconst O dX11_chance_90 (1 : Int32) (by decide) ?_
                  refine g_goto 95 O dX11_chance_91 (by decide) ?_
                  refine g_iadd O dX11_chance_95 ?_
                  refine g_istore O dX11_chance_96 (by decide) (fun y => [(4, .int y), (5, .int a6.1), (0, .ref (za Z i0)), (1, .int p1), (2, .int p2), (3, .int p3)]) (fun _ => rfl) hf (fun x18 hf => ?_)
                  refine g_iinc O dX11_chance_98 1 rfl (by decide) (1) (by decide) (fun y => [(5, .int y), (4, .int x18), (0, .ref (za Z i0)), (1, .int p1), (2, .int p2), (3, .int p3)]) (fun _ => rfl) hf (fun x19 hf => ?_)
                  refine g_goto 42 O dX11_chance_101 (by decide) ?_
                  exact hI6 _ hf
                · refine g_iconst O dX11_chance_94 (0 : Int32) (by decide) ?_
                  refine g_iadd O dX11_chance_95 ?_
                  refine g_istore O dX11_chance_96 (by decide) (fun y => [(4, .int y), (5, .int a6.1), (0, .ref (za Z i0)), (1, .int p1), (2, .int p2), (3, .int p3)]) (fun _ => rfl) hf (fun x20 hf => ?_)
                  refine g_iinc O dX11_chance_98 1 rfl (by decide) (1) (by decide) (fun y => [(5, .int y), (4, .int x20), (0, .ref (za Z i0)), (1, .int p1), (2, .int p2), (3, .int p3)]) (fun _ => rfl) hf (fun x21 hf => ?_)
                  refine g_goto 42 O dX11_chance_101 (by decide) ?_
                  exact hI6 _ hf
        · refine g_bipush O dX11_chance_20 (-2 : Int32) (by decide) ?_
          exact hR _ _ hf _ _ dX11_chance_22

set_option maxHeartbeats 4000000 in
set_option maxRecDepth 100000 in
theorem ct_X11_trayAt {Z : ZT} (hZ : ZOk Z) {σ : Mem} {i0 : Nat} {p1 : Int32} (h0 : kn i0 = 11) {r : (Option Nat)} (hf : fX11_trayAt σ i0 p1 = some r) : Ct Z yX11_trayAt cX11_trayAt 2 (some (.object "PhraseMoods$Tray")) 0 0 [.ref (za Z i0), .int p1] σ (some (rv Z r)) (∀ i, r = some i → kn i = 9) σ := by
  refine ct_a 9 hZ (by decide +kernel) (Nat.le_of_ble_eq_true rfl) hf (fun C K O hN hR0 hR1 hf => ?_)
  have O : Ok Z C RX11 cX11_trayAt 2 0 0 := O
  change G Z C σ 0 [(0, .ref (za Z i0)), (1, .int p1)] []
  unfold fX11_trayAt at hf
  refine g_iload_n O dX11_trayAt_0 1 rfl rfl ?_
  refine g_if_lt 22 O dX11_trayAt_1 (by decide) hf (fun c1 hf => ?_) (fun c1 hf => ?_)
  · refine g_null O dX11_trayAt_22 ?_
    exact hR0 hf _ _ dX11_trayAt_23
  · refine g_iload_n O dX11_trayAt_4 1 rfl rfl ?_
    refine g_aload_n O dX11_trayAt_5 0 rfl rfl ?_
    refine g_getR O dX11_trayAt_6 fx_RX11_67 h0 ?_
    refine g_alen O dX11_trayAt_9 (kf_11_10 h0) (by decide) ?_
    refine g_icmp_ge 22 O dX11_trayAt_10 (by decide) hf (fun c2 hf => ?_) (fun c2 hf => ?_)
    · refine g_null O dX11_trayAt_22 ?_
      exact hR0 hf _ _ dX11_trayAt_23
    · refine g_aload_n O dX11_trayAt_13 0 rfl rfl ?_
      refine g_getR O dX11_trayAt_14 fx_RX11_67 h0 ?_
      refine g_iload_n O dX11_trayAt_17 1 rfl rfl ?_
      refine g_aald O hN dX11_trayAt_18 (kf_11_10 h0) (by decide) (el_25 (kf_11_10 h0)) hf (fun hb3 hf => ?_)
      refine g_goto 23 O dX11_trayAt_19 (by decide) ?_
      exact hR1 _ hf (ke_25 (kf_11_10 h0) (inb_lt hb3)) _ _ dX11_trayAt_23

set_option maxHeartbeats 4000000 in
set_option maxRecDepth 100000 in
theorem ct_X11_tray {Z : ZT} (hZ : ZOk Z) {σ : Mem} {i0 : Nat} {p1 : Int32} {p2 : Int32} {p3 : Int32} (h0 : kn i0 = 11) {r : (Int32 × Mem)} (hf : fX11_tray σ i0 p1 p2 p3 = some r) : Ct Z yX11_tray cX11_tray 5 (some .int) 2 45 [.ref (za Z i0), .int p1, .int p2, .int p3] σ (some (.int r.1)) True r.2 := by
  refine ct_im hZ (by decide +kernel) (Nat.le_of_ble_eq_true rfl) hf (fun C K O hN hR hf => ?_)
  have O : Ok Z C RX11 cX11_tray 5 2 45 := O
  change G Z C σ 0 [(0, .ref (za Z i0)), (1, .int p1), (2, .int p2), (3, .int p3)] []
  unfold fX11_tray at hf
  refine g_aload_n O dX11_tray_0 0 rfl rfl ?_
  refine g_iload_n O dX11_tray_1 1 rfl rfl ?_
  obtain ⟨q1, hq1, hf⟩ := k_obd hN hf
  refine g_callV (rest := []) O dX11_tray_2 (ct_X11_trayAt hZ h0 hq1) vx_RX11_261 h0 rfl rfl (by decide) (Nat.le_of_ble_eq_true rfl) (fun hp2 => ?_)
  refine k_ocs hf (fun he hf1 => ?_) (fun w3 he hf1 => ?_)
  · subst he
    have hf := hf1
    change G Z C σ 5 [(0, .ref (za Z i0)), (1, .int p1), (2, .int p2), (3, .int p3)] [.null]
    refine g_astoreN O dX11_tray_5 (by decide) [(4, .null), (0, .ref (za Z i0)), (1, .int p1), (2, .int p2), (3, .int p3)] rfl ?_
    refine g_aloadN O dX11_tray_7 0 rfl ?_
    refine g_ifnullN 27 O dX11_tray_9 (by decide) ?_
    refine g_bipush O dX11_tray_27 (-2 : Int32) (by decide) ?_
    exact hR _ _ hf _ _ dX11_tray_29
  · subst he
    have hf := hf1
    change G Z C σ 5 [(0, .ref (za Z i0)), (1, .int p1), (2, .int p2), (3, .int p3)] [.ref (za Z w3)]
    refine g_astoreP O dX11_tray_5 (by decide) [(4, .ref (za Z w3)), (0, .ref (za Z i0)), (1, .int p1), (2, .int p2), (3, .int p3)] rfl ?_
    refine g_aload O dX11_tray_7 0 rfl ?_
    refine g_ifnullR O dX11_tray_9 ?_
    refine g_iload_n O dX11_tray_12 3 rfl rfl ?_
    refine g_bipush O dX11_tray_13 (6 : Int32) (by decide) ?_
    obtain ⟨q4, hq4, hf⟩ := k_obd hN hf
    refine g_callS (rest := []) O dX11_tray_15 (ct_X11_isBelow hZ  hq4) sx_RX11_84 rfl rfl (by decide) (Nat.le_of_ble_eq_true rfl) (fun hp5 => ?_)
    change G Z C σ 18 [(4, .ref (za Z w3)), (0, .ref (za Z i0)), (1, .int p1), (2, .int p2), (3, .int p3)] [.int q4]
    refine g_if_eq 27 O dX11_tray_18 (by decide) hf (fun c6 hf => ?_) (fun c6 hf => ?_)
    · refine g_bipush O dX11_tray_27 (-2 : Int32) (by decide) ?_
      exact hR _ _ hf _ _ dX11_tray_29
    · refine g_iload_n O dX11_tray_21 4 rfl rfl ?_
      refine g_bipush O dX11_tray_22 (20 : Int32) (by decide) ?_
      refine g_icmp_le 30 O dX11_tray_24 (by decide) hf (fun c7 hf => ?_) (fun c7 hf => ?_)
      · refine g_iload_n O dX11_tray_30 4 rfl rfl ?_
        refine g_if_ge 37 O dX11_tray_31 (by decide) hf (fun c8 hf => ?_) (fun c8 hf => ?_)
        · refine g_aload O dX11_tray_37 0 rfl ?_
          refine g_iload_n O dX11_tray_39 3 rfl rfl ?_
          refine g_iload_n O dX11_tray_40 4 rfl rfl ?_
          obtain ⟨q9, hq9, hf⟩ := k_obd hN hf
          refine g_callV (rest := []) O dX11_tray_41 (ct_X9_begin hZ (hp2 _ rfl) hq9) vx_RX11_265 (hp2 _ rfl) rfl rfl (by decide) (Nat.le_of_ble_eq_true rfl) (fun hp10 => ?_)
          change G Z C q9 44 [(4, .ref (za Z w3)), (0, .ref (za Z i0)), (1, .int p1), (2, .int p2), (3, .int p3)] []
          refine g_iconst O dX11_tray_44 (1 : Int32) (by decide) ?_
          exact hR _ _ hf _ _ dX11_tray_45
        · refine g_bipush O dX11_tray_34 (-14 : Int32) (by decide) ?_
          exact hR _ _ hf _ _ dX11_tray_36
      · refine g_bipush O dX11_tray_27 (-2 : Int32) (by decide) ?_
        exact hR _ _ hf _ _ dX11_tray_29

set_option maxHeartbeats 4000000 in
set_option maxRecDepth 100000 in
theorem ct_X11_lays {Z : ZT} (hZ : ZOk Z) {σ : Mem} {i0 : Nat} {p1 : Int32} {p2 : Int32} {p3 : Int32} (h0 : kn i0 = 11) {r : (Int32 × Mem)} (hf : fX11_lays σ i0 p1 p2 p3 = some r) : Ct Z yX11_lays cX11_lays 6 (some .int) 2 43 [.ref (za Z i0), .int p1, .int p2, .int p3] σ (some (.int r.1)) True r.2 := by
  refine ct_im hZ (by decide +kernel) (Nat.le_of_ble_eq_true rfl) hf (fun C K O hN hR hf => ?_)
  have O : Ok Z C RX11 cX11_lays 6 2 43 := O
  change G Z C σ 0 [(0, .ref (za Z i0)), (1, .int p1), (2, .int p2), (3, .int p3)] []
  unfold fX11_lays at hf
  refine g_aload_n O dX11_lays_0 0 rfl rfl ?_
  refine g_iload_n O dX11_lays_1 1 rfl rfl ?_
  obtain ⟨q1, hq1, hf⟩ := k_obd hN hf
  refine g_callV (rest := []) O dX11_lays_2 (ct_X11_trayAt hZ h0 hq1) vx_RX11_261 h0 rfl rfl (by decide) (Nat.le_of_ble_eq_true rfl) (fun hp2 => ?_)
  refine k_ocs hf (fun he hf1 => ?_) (fun w3 he hf1 => ?_)
  · subst he
    have hf := hf1
    change G Z C σ 5 [(0, .ref (za Z i0)), (1, .int p1), (2, .int p2), (3, .int p3)] [.null]
    refine g_astoreN O dX11_lays_5 (by decide) [(4, .null), (0, .ref (za Z i0)), (1, .int p1), (2, .int p2), (3, .int p3)] rfl ?_
    refine g_aload_n O dX11_lays_7 1 rfl rfl ?_
    refine g_getR O dX11_lays_8 fx_RX11_21 h0 ?_
    refine g_iload_n O dX11_lays_11 4 rfl rfl ?_
    obtain ⟨q4, hq4, hf⟩ := k_obd hN hf
    refine g_callV (rest := []) O dX11_lays_12 (ct_X0_wordAt hZ (kf_11_1 h0) hq4) vx_RX11_119 (kf_11_1 h0) rfl rfl (by decide) (Nat.le_of_ble_eq_true rfl) (fun hp5 => ?_)
    refine k_ocs hf (fun he hf1 => ?_) (fun w6 he hf1 => ?_)
    · subst he
      have hf := hf1
      change G Z C σ 15 [(4, .null), (0, .ref (za Z i0)), (1, .int p1), (2, .int p2), (3, .int p3)] [.null]
      refine g_astoreN O dX11_lays_15 (by decide) [(5, .null), (4, .null), (0, .ref (za Z i0)), (1, .int p1), (2, .int p2), (3, .int p3)] rfl ?_
      refine g_aloadN O dX11_lays_17 1 rfl ?_
      refine g_ifnullN 32 O dX11_lays_19 (by decide) ?_
      refine g_bipush O dX11_lays_32 (-2 : Int32) (by decide) ?_
      exact hR _ _ hf _ _ dX11_lays_34
    · subst he
      have hf := hf1
      change G Z C σ 15 [(4, .null), (0, .ref (za Z i0)), (1, .int p1), (2, .int p2), (3, .int p3)] [.ref (za Z w6)]
      refine g_astoreP O dX11_lays_15 (by decide) [(5, .ref (za Z w6)), (4, .null), (0, .ref (za Z i0)), (1, .int p1), (2, .int p2), (3, .int p3)] rfl ?_
      refine g_aloadN O dX11_lays_17 1 rfl ?_
      refine g_ifnullN 32 O dX11_lays_19 (by decide) ?_
      refine g_bipush O dX11_lays_32 (-2 : Int32) (by decide) ?_
      exact hR _ _ hf _ _ dX11_lays_34
  · subst he
    have hf := hf1
    change G Z C σ 5 [(0, .ref (za Z i0)), (1, .int p1), (2, .int p2), (3, .int p3)] [.ref (za Z w3)]
    refine g_astoreP O dX11_lays_5 (by decide) [(4, .ref (za Z w3)), (0, .ref (za Z i0)), (1, .int p1), (2, .int p2), (3, .int p3)] rfl ?_
    refine g_aload_n O dX11_lays_7 1 rfl rfl ?_
    refine g_getR O dX11_lays_8 fx_RX11_21 h0 ?_
    refine g_iload_n O dX11_lays_11 4 rfl rfl ?_
    obtain ⟨q7, hq7, hf⟩ := k_obd hN hf
    refine g_callV (rest := []) O dX11_lays_12 (ct_X0_wordAt hZ (kf_11_1 h0) hq7) vx_RX11_119 (kf_11_1 h0) rfl rfl (by decide) (Nat.le_of_ble_eq_true rfl) (fun hp8 => ?_)
    refine k_ocs hf (fun he hf1 => ?_) (fun w9 he hf1 => ?_)
    · subst he
      have hf := hf1
      change G Z C σ 15 [(4, .ref (za Z w3)), (0, .ref (za Z i0)), (1, .int p1), (2, .int p2), (3, .int p3)] [.null]
      refine g_astoreN O dX11_lays_15 (by decide) [(5, .null), (4, .ref (za Z w3)), (0, .ref (za Z i0)), (1, .int p1), (2, .int p2), (3, .int p3)] rfl ?_
      refine g_aload O dX11_lays_17 1 rfl ?_
      refine g_ifnullR O dX11_lays_19 ?_
      refine g_aloadN O dX11_lays_22 0 rfl ?_
      refine g_ifnonnullN O dX11_lays_24 ?_
      refine g_iload_n O dX11_lays_27 5 rfl rfl ?_
      refine g_iconst O dX11_lays_28 (-1 : Int32) (by decide) ?_
      refine g_icmp_eq 35 O dX11_lays_29 (by decide) hf (fun c10 hf => ?_) (fun c10 hf => ?_)
      · refine g_aload O dX11_lays_35 1 rfl ?_
        obtain ⟨q11, hq11, hf⟩ := k_obd hN hf
        refine g_callV (rest := []) O dX11_lays_37 (ct_X9_isMissing hZ (hp2 _ rfl) hq11) vx_RX11_266 (hp2 _ rfl) rfl rfl (by decide) (Nat.le_of_ble_eq_true rfl) (fun hp12 => ?_)
        change G Z C σ 40 [(5, .null), (4, .ref (za Z w3)), (0, .ref (za Z i0)), (1, .int p1), (2, .int p2), (3, .int p3)] [.int q11]
        refine g_if_eq 46 O dX11_lays_40 (by decide) hf (fun c13 hf => ?_) (fun c13 hf => ?_)
        · refine g_aload O dX11_lays_46 1 rfl ?_
          refine g_iload_n O dX11_lays_48 4 rfl rfl ?_
          obtain ⟨q14, hq14, hf⟩ := k_obd hN hf
          refine g_callV (rest := []) O dX11_lays_49 (ct_X9_has hZ (hp2 _ rfl) hq14) vx_RX11_269 (hp2 _ rfl) rfl rfl (by decide) (Nat.le_of_ble_eq_true rfl) (fun hp15 => ?_)
          change G Z C σ 52 [(5, .null), (4, .ref (za Z w3)), (0, .ref (za Z i0)), (1, .int p1), (2, .int p2), (3, .int p3)] [.int q14]
          refine g_if_ne 58 O dX11_lays_52 (by decide) hf (fun c16 hf => ?_) (fun c16 hf => ?_)
          · refine g_bipush O dX11_lays_55 (-12 : Int32) (by decide) ?_
            exact hR _ _ hf _ _ dX11_lays_57
          · refine g_aloadN O dX11_lays_58 0 rfl ?_
            refine g_ifnullN 79 O dX11_lays_60 (by decide) ?_
            refine g_aload O dX11_lays_79 1 rfl ?_
            refine g_iload_n O dX11_lays_81 4 rfl rfl ?_
            refine g_iload_n O dX11_lays_82 5 rfl rfl ?_
            obtain ⟨q17, hq17, hf⟩ := k_obd hN hf
            refine g_callV (rest := []) O dX11_lays_83 (ct_X9_lay hZ (hp2 _ rfl) hq17) vx_RX11_271 (hp2 _ rfl) rfl rfl (by decide) (Nat.le_of_ble_eq_true rfl) (fun hp18 => ?_)
            change G Z C q17 86 [(5, .null), (4, .ref (za Z w3)), (0, .ref (za Z i0)), (1, .int p1), (2, .int p2), (3, .int p3)] []
            refine g_iconst O dX11_lays_86 (1 : Int32) (by decide) ?_
            exact hR _ _ hf _ _ dX11_lays_87
        · refine g_bipush O dX11_lays_43 (-11 : Int32) (by decide) ?_
          exact hR _ _ hf _ _ dX11_lays_45
      · refine g_bipush O dX11_lays_32 (-2 : Int32) (by decide) ?_
        exact hR _ _ hf _ _ dX11_lays_34
    · subst he
      have hf := hf1
      change G Z C σ 15 [(4, .ref (za Z w3)), (0, .ref (za Z i0)), (1, .int p1), (2, .int p2), (3, .int p3)] [.ref (za Z w9)]
      refine g_astoreP O dX11_lays_15 (by decide) [(5, .ref (za Z w9)), (4, .ref (za Z w3)), (0, .ref (za Z i0)), (1, .int p1), (2, .int p2), (3, .int p3)] rfl ?_
      refine g_aload O dX11_lays_17 1 rfl ?_
      refine g_ifnullR O dX11_lays_19 ?_
      refine g_aload O dX11_lays_22 0 rfl ?_
      refine g_ifnonnullR 35 O dX11_lays_24 (by decide) ?_
      refine g_aload O dX11_lays_35 1 rfl ?_
      obtain ⟨q19, hq19, hf⟩ := k_obd hN hf
      refine g_callV (rest := []) O dX11_lays_37 (ct_X9_isMissing hZ (hp2 _ rfl) hq19) vx_RX11_266 (hp2 _ rfl) rfl rfl (by decide) (Nat.le_of_ble_eq_true rfl) (fun hp20 => ?_)
      change G Z C σ 40 [(5, .ref (za Z w9)), (4, .ref (za Z w3)), (0, .ref (za Z i0)), (1, .int p1), (2, .int p2), (3, .int p3)] [.int q19]
      refine g_if_eq 46 O dX11_lays_40 (by decide) hf (fun c21 hf => ?_) (fun c21 hf => ?_)
      · refine g_aload O dX11_lays_46 1 rfl ?_
        refine g_iload_n O dX11_lays_48 4 rfl rfl ?_
        obtain ⟨q22, hq22, hf⟩ := k_obd hN hf
        refine g_callV (rest := []) O dX11_lays_49 (ct_X9_has hZ (hp2 _ rfl) hq22) vx_RX11_269 (hp2 _ rfl) rfl rfl (by decide) (Nat.le_of_ble_eq_true rfl) (fun hp23 => ?_)
        change G Z C σ 52 [(5, .ref (za Z w9)), (4, .ref (za Z w3)), (0, .ref (za Z i0)), (1, .int p1), (2, .int p2), (3, .int p3)] [.int q22]
        refine g_if_ne 58 O dX11_lays_52 (by decide) hf (fun c24 hf => ?_) (fun c24 hf => ?_)
        · refine g_bipush O dX11_lays_55 (-12 : Int32) (by decide) ?_
          exact hR _ _ hf _ _ dX11_lays_57
        · refine g_aload O dX11_lays_58 0 rfl ?_
          refine g_ifnullR O dX11_lays_60 ?_
          refine g_aload O dX11_lays_63 0 rfl ?_
          refine g_aload O dX11_lays_65 1 rfl ?_
          refine g_getI O dX11_lays_67 fx_RX11_270 (hp2 _ rfl) ?_
          obtain ⟨q25, hq25, hf⟩ := k_obd hN hf
          refine g_callV (rest := []) O dX11_lays_70 (ct_X10_isOf hZ (hp8 _ rfl) hq25) vx_RX11_137 (hp8 _ rfl) rfl rfl (by decide) (Nat.le_of_ble_eq_true rfl) (fun hp26 => ?_)
          change G Z C σ 73 [(5, .ref (za Z w9)), (4, .ref (za Z w3)), (0, .ref (za Z i0)), (1, .int p1), (2, .int p2), (3, .int p3)] [.int q25]
          refine g_if_ne 79 O dX11_lays_73 (by decide) hf (fun c27 hf => ?_) (fun c27 hf => ?_)
          · refine g_bipush O dX11_lays_76 (-16 : Int32) (by decide) ?_
            exact hR _ _ hf _ _ dX11_lays_78
          · refine g_aload O dX11_lays_79 1 rfl ?_
            refine g_iload_n O dX11_lays_81 4 rfl rfl ?_
            refine g_iload_n O dX11_lays_82 5 rfl rfl ?_
            obtain ⟨q28, hq28, hf⟩ := k_obd hN hf
            refine g_callV (rest := []) O dX11_lays_83 (ct_X9_lay hZ (hp2 _ rfl) hq28) vx_RX11_271 (hp2 _ rfl) rfl rfl (by decide) (Nat.le_of_ble_eq_true rfl) (fun hp29 => ?_)
            change G Z C q28 86 [(5, .ref (za Z w9)), (4, .ref (za Z w3)), (0, .ref (za Z i0)), (1, .int p1), (2, .int p2), (3, .int p3)] []
            refine g_iconst O dX11_lays_86 (1 : Int32) (by decide) ?_
            exact hR _ _ hf _ _ dX11_lays_87
      · refine g_bipush O dX11_lays_43 (-11 : Int32) (by decide) ?_
        exact hR _ _ hf _ _ dX11_lays_45

set_option maxHeartbeats 4000000 in
set_option maxRecDepth 100000 in
theorem ct_X11_laid {Z : ZT} (hZ : ZOk Z) {σ : Mem} {i0 : Nat} {p1 : Int32} {p2 : Int32} (h0 : kn i0 = 11) {r : Int32} (hf : fX11_laid σ i0 p1 p2 = some r) : Ct Z yX11_laid cX11_laid 4 (some .int) 2 42 [.ref (za Z i0), .int p1, .int p2] σ (some (.int r)) True σ := by
  refine ct_i hZ (by decide +kernel) (Nat.le_of_ble_eq_true rfl) hf (fun C K O hN hR hf => ?_)
  have O : Ok Z C RX11 cX11_laid 4 2 42 := O
  change G Z C σ 0 [(0, .ref (za Z i0)), (1, .int p1), (2, .int p2)] []
  unfold fX11_laid at hf
  refine g_aload_n O dX11_laid_0 0 rfl rfl ?_
  refine g_iload_n O dX11_laid_1 1 rfl rfl ?_
  obtain ⟨q1, hq1, hf⟩ := k_obd hN hf
  refine g_callV (rest := []) O dX11_laid_2 (ct_X11_trayAt hZ h0 hq1) vx_RX11_261 h0 rfl rfl (by decide) (Nat.le_of_ble_eq_true rfl) (fun hp2 => ?_)
  refine k_ocs hf (fun he hf1 => ?_) (fun w3 he hf1 => ?_)
  · subst he
    have hf := hf1
    change G Z C σ 5 [(0, .ref (za Z i0)), (1, .int p1), (2, .int p2)] [.null]
    refine g_astore_nN O dX11_laid_5 rfl (by decide) [(3, .null), (0, .ref (za Z i0)), (1, .int p1), (2, .int p2)] rfl ?_
    refine g_aload_nN O dX11_laid_6 0 rfl rfl ?_
    refine g_ifnonnullN O dX11_laid_7 ?_
    refine g_bipush O dX11_laid_10 (-2 : Int32) (by decide) ?_
    exact hR _ hf _ _ dX11_laid_12
  · subst he
    have hf := hf1
    change G Z C σ 5 [(0, .ref (za Z i0)), (1, .int p1), (2, .int p2)] [.ref (za Z w3)]
    refine g_astore_nP O dX11_laid_5 rfl (by decide) [(3, .ref (za Z w3)), (0, .ref (za Z i0)), (1, .int p1), (2, .int p2)] rfl ?_
    refine g_aload_n O dX11_laid_6 0 rfl rfl ?_
    refine g_ifnonnullR 13 O dX11_laid_7 (by decide) ?_
    refine g_aload_n O dX11_laid_13 0 rfl rfl ?_
    obtain ⟨q4, hq4, hf⟩ := k_obd hN hf
    refine g_callV (rest := []) O dX11_laid_14 (ct_X9_isMissing hZ (hp2 _ rfl) hq4) vx_RX11_266 (hp2 _ rfl) rfl rfl (by decide) (Nat.le_of_ble_eq_true rfl) (fun hp5 => ?_)
    change G Z C σ 17 [(3, .ref (za Z w3)), (0, .ref (za Z i0)), (1, .int p1), (2, .int p2)] [.int q4]
    refine g_if_eq 23 O dX11_laid_17 (by decide) hf (fun c6 hf => ?_) (fun c6 hf => ?_)
    · refine g_aload_n O dX11_laid_23 0 rfl rfl ?_
      refine g_iload_n O dX11_laid_24 3 rfl rfl ?_
      obtain ⟨q7, hq7, hf⟩ := k_obd hN hf
      refine g_callV (rest := []) O dX11_laid_25 (ct_X9_has hZ (hp2 _ rfl) hq7) vx_RX11_269 (hp2 _ rfl) rfl rfl (by decide) (Nat.le_of_ble_eq_true rfl) (fun hp8 => ?_)
      change G Z C σ 28 [(3, .ref (za Z w3)), (0, .ref (za Z i0)), (1, .int p1), (2, .int p2)] [.int q7]
      refine g_if_eq 39 O dX11_laid_28 (by decide) hf (fun c9 hf => ?_) (fun c9 hf => ?_)
      · refine g_bipush O dX11_laid_39 (-12 : Int32) (by decide) ?_
        exact hR _ hf _ _ dX11_laid_41
      · refine g_aload_n O dX11_laid_31 0 rfl rfl ?_
        refine g_iload_n O dX11_laid_32 3 rfl rfl ?_
        obtain ⟨q10, hq10, hf⟩ := k_obd hN hf
        refine g_callV (rest := []) O dX11_laid_33 (ct_X9_wordAt hZ (hp2 _ rfl) hq10) vx_RX11_274 (hp2 _ rfl) rfl rfl (by decide) (Nat.le_of_ble_eq_true rfl) (fun hp11 => ?_)
        change G Z C σ 36 [(3, .ref (za Z w3)), (0, .ref (za Z i0)), (1, .int p1), (2, .int p2)] [.int q10]
        refine g_goto 41 O dX11_laid_36 (by decide) ?_
        exact hR _ hf _ _ dX11_laid_41
    · refine g_bipush O dX11_laid_20 (-11 : Int32) (by decide) ?_
      exact hR _ hf _ _ dX11_laid_22

set_option maxHeartbeats 4000000 in
set_option maxRecDepth 100000 in
theorem ct_X11_like {Z : ZT} (hZ : ZOk Z) {σ : Mem} {i0 : Nat} {p1 : Int32} {p2 : Int32} (h0 : kn i0 = 11) {r : (Int32 × Mem)} (hf : fX11_like σ i0 p1 p2 = some r) : Ct Z yX11_like cX11_like 5 (some .int) 2 61 [.ref (za Z i0), .int p1, .int p2] σ (some (.int r.1)) True r.2 := by
  refine ct_im hZ (by decide +kernel) (Nat.le_of_ble_eq_true rfl) hf (fun C K O hN hR hf => ?_)
  have O : Ok Z C RX11 cX11_like 5 2 61 := O
  change G Z C σ 0 [(0, .ref (za Z i0)), (1, .int p1), (2, .int p2)] []
  unfold fX11_like at hf
  refine g_aload_n O dX11_like_0 0 rfl rfl ?_
  refine g_iload_n O dX11_like_1 1 rfl rfl ?_
  obtain ⟨q1, hq1, hf⟩ := k_obd hN hf
  refine g_callV (rest := []) O dX11_like_2 (ct_X11_trayAt hZ h0 hq1) vx_RX11_261 h0 rfl rfl (by decide) (Nat.le_of_ble_eq_true rfl) (fun hp2 => ?_)
  refine k_ocs hf (fun he hf1 => ?_) (fun w3 he hf1 => ?_)
  · subst he
    have hf := hf1
    change G Z C σ 5 [(0, .ref (za Z i0)), (1, .int p1), (2, .int p2)] [.null]
    refine g_astore_nN O dX11_like_5 rfl (by decide) [(3, .null), (0, .ref (za Z i0)), (1, .int p1), (2, .int p2)] rfl ?_
    refine g_aload_n O dX11_like_6 1 rfl rfl ?_
    refine g_iload_n O dX11_like_7 3 rfl rfl ?_
    obtain ⟨q4, hq4, hf⟩ := k_obd hN hf
    refine g_callV (rest := []) O dX11_like_8 (ct_X11_trayAt hZ h0 hq4) vx_RX11_261 h0 rfl rfl (by decide) (Nat.le_of_ble_eq_true rfl) (fun hp5 => ?_)
    refine k_ocs hf (fun he hf1 => ?_) (fun w6 he hf1 => ?_)
    · subst he
      have hf := hf1
      change G Z C σ 11 [(3, .null), (0, .ref (za Z i0)), (1, .int p1), (2, .int p2)] [.null]
      refine g_astoreN O dX11_like_11 (by decide) [(4, .null), (3, .null), (0, .ref (za Z i0)), (1, .int p1), (2, .int p2)] rfl ?_
      refine g_aload_nN O dX11_like_13 1 rfl rfl ?_
      refine g_ifnullN 22 O dX11_like_14 (by decide) ?_
      refine g_bipush O dX11_like_22 (-2 : Int32) (by decide) ?_
      exact hR _ _ hf _ _ dX11_like_24
    · subst he
      have hf := hf1
      change G Z C σ 11 [(3, .null), (0, .ref (za Z i0)), (1, .int p1), (2, .int p2)] [.ref (za Z w6)]
      refine g_astoreP O dX11_like_11 (by decide) [(4, .ref (za Z w6)), (3, .null), (0, .ref (za Z i0)), (1, .int p1), (2, .int p2)] rfl ?_
      refine g_aload_nN O dX11_like_13 1 rfl rfl ?_
      refine g_ifnullN 22 O dX11_like_14 (by decide) ?_
      refine g_bipush O dX11_like_22 (-2 : Int32) (by decide) ?_
      exact hR _ _ hf _ _ dX11_like_24
  · subst he
    have hf := hf1
    change G Z C σ 5 [(0, .ref (za Z i0)), (1, .int p1), (2, .int p2)] [.ref (za Z w3)]
    refine g_astore_nP O dX11_like_5 rfl (by decide) [(3, .ref (za Z w3)), (0, .ref (za Z i0)), (1, .int p1), (2, .int p2)] rfl ?_
    refine g_aload_n O dX11_like_6 1 rfl rfl ?_
    refine g_iload_n O dX11_like_7 3 rfl rfl ?_
    obtain ⟨q7, hq7, hf⟩ := k_obd hN hf
    refine g_callV (rest := []) O dX11_like_8 (ct_X11_trayAt hZ h0 hq7) vx_RX11_261 h0 rfl rfl (by decide) (Nat.le_of_ble_eq_true rfl) (fun hp8 => ?_)
    refine k_ocs hf (fun he hf1 => ?_) (fun w9 he hf1 => ?_)
    · subst he
      have hf := hf1
      change G Z C σ 11 [(3, .ref (za Z w3)), (0, .ref (za Z i0)), (1, .int p1), (2, .int p2)] [.null]
      refine g_astoreN O dX11_like_11 (by decide) [(4, .null), (3, .ref (za Z w3)), (0, .ref (za Z i0)), (1, .int p1), (2, .int p2)] rfl ?_
      refine g_aload_n O dX11_like_13 1 rfl rfl ?_
      refine g_ifnullR O dX11_like_14 ?_
      refine g_aloadN O dX11_like_17 0 rfl ?_
      refine g_ifnonnullN O dX11_like_19 ?_
      refine g_bipush O dX11_like_22 (-2 : Int32) (by decide) ?_
      exact hR _ _ hf _ _ dX11_like_24
    · subst he
      have hf := hf1
      change G Z C σ 11 [(3, .ref (za Z w3)), (0, .ref (za Z i0)), (1, .int p1), (2, .int p2)] [.ref (za Z w9)]
      refine g_astoreP O dX11_like_11 (by decide) [(4, .ref (za Z w9)), (3, .ref (za Z w3)), (0, .ref (za Z i0)), (1, .int p1), (2, .int p2)] rfl ?_
      refine g_aload_n O dX11_like_13 1 rfl rfl ?_
      refine g_ifnullR O dX11_like_14 ?_
      refine g_aload O dX11_like_17 0 rfl ?_
      refine g_ifnonnullR 25 O dX11_like_19 (by decide) ?_
      refine g_aload O dX11_like_25 0 rfl ?_
      obtain ⟨q10, hq10, hf⟩ := k_obd hN hf
      refine g_callV (rest := []) O dX11_like_27 (ct_X9_isMissing hZ (hp8 _ rfl) hq10) vx_RX11_266 (hp8 _ rfl) rfl rfl (by decide) (Nat.le_of_ble_eq_true rfl) (fun hp11 => ?_)
      change G Z C σ 30 [(4, .ref (za Z w9)), (3, .ref (za Z w3)), (0, .ref (za Z i0)), (1, .int p1), (2, .int p2)] [.int q10]
      refine g_if_eq 36 O dX11_like_30 (by decide) hf (fun c12 hf => ?_) (fun c12 hf => ?_)
      · refine g_aload_n O dX11_like_36 1 rfl rfl ?_
        refine g_aload O dX11_like_37 0 rfl ?_
        obtain ⟨q13, hq13, hf⟩ := k_obd hN hf
        refine g_callV (rest := []) O dX11_like_39 (ct_X9_become hZ (hp2 _ rfl) (hp8 _ rfl) hq13) vx_RX11_276 (hp2 _ rfl) rfl rfl (by decide) (Nat.le_of_ble_eq_true rfl) (fun hp14 => ?_)
        change G Z C q13 42 [(4, .ref (za Z w9)), (3, .ref (za Z w3)), (0, .ref (za Z i0)), (1, .int p1), (2, .int p2)] []
        refine g_aload_n O dX11_like_42 1 rfl rfl ?_
        refine g_getI O dX11_like_43 fx_RX11_279 (hp2 _ rfl) ?_
        exact hR _ _ hf _ _ dX11_like_46
      · refine g_bipush O dX11_like_33 (-11 : Int32) (by decide) ?_
        exact hR _ _ hf _ _ dX11_like_35

set_option maxHeartbeats 4000000 in
set_option maxRecDepth 100000 in
theorem ct_X11_firstOtherwise {Z : ZT} (hZ : ZOk Z) {σ : Mem} {i0 : Nat} {i1 : Nat} (h0 : kn i0 = 11) (h1 : kn i1 = 7) {r : Int32} (hf : fX11_firstOtherwise σ i0 i1 = some r) : Ct Z yX11_firstOtherwise cX11_firstOtherwise 4 (some .int) 2 43 [.ref (za Z i0), .ref (za Z i1)] σ (some (.int r)) True σ := by
  refine ct_i hZ (by decide +kernel) (Nat.le_of_ble_eq_true rfl) hf (fun C K O hN hR hf => ?_)
  have O : Ok Z C RX11 cX11_firstOtherwise 4 2 43 := O
  change G Z C σ 0 [(0, .ref (za Z i0)), (1, .ref (za Z i1))] []
  unfold fX11_firstOtherwise at hf
  refine g_aload_n O dX11_firstOtherwise_0 1 rfl rfl ?_
  refine g_getI O dX11_firstOtherwise_1 fx_RX11_285 h1 ?_
  refine g_aload_n O dX11_firstOtherwise_4 0 rfl rfl ?_
  refine g_getR O dX11_firstOtherwise_5 fx_RX11_41 h0 ?_
  refine g_getI O dX11_firstOtherwise_8 fx_RX11_339 (kf_11_6 h0) ?_
  refine g_mmin O dX11_firstOtherwise_11 lm_RX11_341 mm_min.1 mm_min.2.1 mm_min.2.2 (by decide) (Nat.le_of_ble_eq_true rfl) ?_
  refine g_istore_n O dX11_firstOtherwise_14 rfl (by decide) (fun y => [(2, .int y), (0, .ref (za Z i0)), (1, .ref (za Z i1))]) (fun _ => rfl) hf (fun x1 hf => ?_)
  refine g_iconst O dX11_firstOtherwise_15 (0 : Int32) (by decide) ?_
  refine g_istore_nP O dX11_firstOtherwise_16 rfl (by decide) [(3, .int (0 : Int32)), (2, .int x1), (0, .ref (za Z i0)), (1, .ref (za Z i1))] rfl ?_
  refine g_lp hN (fun (a2 : Int32) => G Z C σ 17 [(3, .int a2), (2, .int x1), (0, .ref (za Z i0)), (1, .ref (za Z i1))] []) hf (fun a2 _ hN2 hI2 hX2 hf => ?_)
  unfold sX11_firstOtherwise_17 at hf
  refine g_iload_n O dX11_firstOtherwise_17 0 rfl rfl ?_
  refine g_iload_n O dX11_firstOtherwise_18 1 rfl rfl ?_
  refine g_icmp_ge 46 O dX11_firstOtherwise_19 (by decide) hf (fun c3 hf => ?_) (fun c3 hf => ?_)
  · have hf := hX2 _ hf
    refine g_aload_n O dX11_firstOtherwise_46 3 rfl rfl ?_
    refine g_getI O dX11_firstOtherwise_47 fx_RX11_285 h1 ?_
    refine g_aload_n O dX11_firstOtherwise_50 2 rfl rfl ?_
    refine g_getR O dX11_firstOtherwise_51 fx_RX11_41 h0 ?_
    refine g_getI O dX11_firstOtherwise_54 fx_RX11_339 (kf_11_6 h0) ?_
    refine g_icmp_ne 64 O dX11_firstOtherwise_57 (by decide) hf (fun c4 hf => ?_) (fun c4 hf => ?_)
    · refine g_iconst O dX11_firstOtherwise_60 (-1 : Int32) (by decide) ?_
      refine g_goto 65 O dX11_firstOtherwise_61 (by decide) ?_
      exact hR _ hf _ _ dX11_firstOtherwise_65
    · refine g_iload_n O dX11_firstOtherwise_64 1 rfl rfl ?_
      exact hR _ hf _ _ dX11_firstOtherwise_65
  · refine g_aload_n O dX11_firstOtherwise_22 3 rfl rfl ?_
    refine g_iload_n O dX11_firstOtherwise_23 0 rfl rfl ?_
    obtain ⟨q5, hq5, hf⟩ := k_obd hN2 hf
    refine g_callV (rest := []) O dX11_firstOtherwise_24 (ct_X7_at hZ h1 hq5) vx_RX11_346 h1 rfl rfl (by decide) (Nat.le_of_ble_eq_true rfl) (fun hp6 => ?_)
    change G Z C σ 27 [(3, .int a2), (2, .int x1), (0, .ref (za Z i0)), (1, .ref (za Z i1))] [.int q5]
    refine g_aload_n O dX11_firstOtherwise_27 2 rfl rfl ?_
    refine g_getR O dX11_firstOtherwise_28 fx_RX11_41 h0 ?_
    refine g_iload_n O dX11_firstOtherwise_31 0 rfl rfl ?_
    obtain ⟨q7, hq7, hf⟩ := k_obd hN2 hf
    refine g_callV (rest := [.int q5]) O dX11_firstOtherwise_32 (ct_X8_lengthOf hZ (kf_11_6 h0) hq7) vx_RX11_347 (kf_11_6 h0) rfl rfl (by decide) (Nat.le_of_ble_eq_true rfl) (fun hp8 => ?_)
    change G Z C σ 35 [(3, .int a2), (2, .int x1), (0, .ref (za Z i0)), (1, .ref (za Z i1))] [.int q7, .int q5]
    refine g_icmp_eq 40 O dX11_firstOtherwise_35 (by decide) hf (fun c9 hf => ?_) (fun c9 hf => ?_)
    · refine g_iinc O dX11_firstOtherwise_40 0 rfl (by decide) (1) (by decide) (fun y => [(3, .int y), (2, .int x1), (0, .ref (za Z i0)), (1, .ref (za Z i1))]) (fun _ => rfl) hf (fun x10 hf => ?_)
      refine g_goto 17 O dX11_firstOtherwise_43 (by decide) ?_
      exact hI2 _ hf
    · have hf := hX2 _ hf
      refine g_iload_n O dX11_firstOtherwise_38 0 rfl rfl ?_
      exact hR _ hf _ _ dX11_firstOtherwise_39

set_option maxHeartbeats 4000000 in
set_option maxRecDepth 100000 in
theorem ct_X11_moodsTold {Z : ZT} (hZ : ZOk Z) {σ : Mem} {i0 : Nat} {i1 : Nat} (h0 : kn i0 = 11) (h1 : kn i1 = 7) {r : (Int32 × Mem)} (hf : fX11_moodsTold σ i0 i1 = some r) : Ct Z yX11_moodsTold cX11_moodsTold 4 (some .int) 4 116 [.ref (za Z i0), .ref (za Z i1)] σ (some (.int r.1)) True r.2 := by
  refine ct_im hZ (by decide +kernel) (Nat.le_of_ble_eq_true rfl) hf (fun C K O hN hR hf => ?_)
  have O : Ok Z C RX11 cX11_moodsTold 4 4 116 := O
  change G Z C σ 0 [(0, .ref (za Z i0)), (1, .ref (za Z i1))] []
  unfold fX11_moodsTold at hf
  refine g_iconst O dX11_moodsTold_0 (0 : Int32) (by decide) ?_
  refine g_istore_nP O dX11_moodsTold_1 rfl (by decide) [(2, .int (0 : Int32)), (0, .ref (za Z i0)), (1, .ref (za Z i1))] rfl ?_
  refine g_iconst O dX11_moodsTold_2 (0 : Int32) (by decide) ?_
  refine g_istore_nP O dX11_moodsTold_3 rfl (by decide) [(3, .int (0 : Int32)), (2, .int (0 : Int32)), (0, .ref (za Z i0)), (1, .ref (za Z i1))] rfl ?_
  refine g_lp hN (fun (a1 : Int32 × Int32 × Mem) => G Z C a1.2.2 4 [(3, .int a1.1), (2, .int a1.2.1), (0, .ref (za Z i0)), (1, .ref (za Z i1))] []) hf (fun a1 _ hN1 hI1 hX1 hf => ?_)
  unfold sX11_moodsTold_4 at hf
  refine g_iload_n O dX11_moodsTold_4 0 rfl rfl ?_
  refine g_iconst O dX11_moodsTold_5 (4 : Int32) (by decide) ?_
  refine g_icmp_ge 64 O dX11_moodsTold_6 (by decide) hf (fun c2 hf => ?_) (fun c2 hf => ?_)
  · have hf := hX1 _ hf
    refine g_iload_n O dX11_moodsTold_64 1 rfl rfl ?_
    exact hR _ _ hf _ _ dX11_moodsTold_65
  · refine g_aload_n O dX11_moodsTold_9 2 rfl rfl ?_
    refine g_getR O dX11_moodsTold_10 fx_RX11_41 h0 ?_
    refine g_aload_n O dX11_moodsTold_13 2 rfl rfl ?_
    refine g_getR O dX11_moodsTold_14 fx_RX11_21 h0 ?_
    refine g_aload_n O dX11_moodsTold_17 2 rfl rfl ?_
    refine g_getR O dX11_moodsTold_18 fx_RX11_21 h0 ?_
    refine g_getR O dX11_moodsTold_21 fx_RX11_175 (kf_11_1 h0) ?_
    refine g_iload_n O dX11_moodsTold_24 0 rfl rfl ?_
    refine g_aload_n O dX11_moodsTold_25 2 rfl rfl ?_
    refine g_getR O dX11_moodsTold_26 fx_RX11_21 h0 ?_
    refine g_getR O dX11_moodsTold_29 fx_RX11_175 (kf_11_1 h0) ?_
    refine g_getI O dX11_moodsTold_32 fx_RX11_202 (kf_0_7 (kf_11_1 h0)) ?_
    obtain ⟨q3, hq3, hf⟩ := k_obd hN1 hf
    refine g_callV (rest := []) O dX11_moodsTold_35 (ct_X8_say hZ (kf_11_6 h0) (kf_11_1 h0) (kf_0_7 (kf_11_1 h0)) hq3) vx_RX11_328 (kf_11_6 h0) rfl rfl (by decide) (Nat.le_of_ble_eq_true rfl) (fun hp4 => ?_)
    change G Z C q3.2 38 [(3, .int a1.1), (2, .int a1.2.1), (0, .ref (za Z i0)), (1, .ref (za Z i1))] [.int q3.1]
    refine g_pop O dX11_moodsTold_38 rfl ?_
    refine g_iload_n O dX11_moodsTold_39 1 rfl rfl ?_
    refine g_aload_n O dX11_moodsTold_40 2 rfl rfl ?_
    refine g_aload_n O dX11_moodsTold_41 3 rfl rfl ?_
    obtain ⟨q5, hq5, hf⟩ := k_obd hN1 hf
    refine g_callV (rest := [.int a1.2.1]) O dX11_moodsTold_42 (ct_X11_firstOtherwise hZ h0 h1 hq5) vx_RX11_286 h0 rfl rfl (by decide) (Nat.le_of_ble_eq_true rfl) (fun hp6 => ?_)
    change G Z C q3.2 45 [(3, .int a1.1), (2, .int a1.2.1), (0, .ref (za Z i0)), (1, .ref (za Z i1))] [.int q5, .int a1.2.1]
    refine g_iconst O dX11_moodsTold_45 (-1 : Int32) (by decide) ?_
    refine g_icmp_ne 55 O dX11_moodsTold_46 (by decide) hf (fun c7 hf => ?_) (fun c7 hf => ?_)
    · refine g_iconst O dX11_moodsTold_49 (1 : Int32) (by decide) ?_
      refine g_iload_n O dX11_moodsTold_50 0 rfl rfl ?_
      refine g_ishl O dX11_moodsTold_51 ?_
      refine g_goto 56 O dX11_moodsTold_52 (by decide) ?_
      refine g_ior O dX11_moodsTold_56 ?_
      refine g_istore_n O dX11_moodsTold_57 rfl (by decide) (fun y => [(2, .int y), (3, .int a1.1), (0, .ref (za Z i0)), (1, .ref (za Z i1))]) (fun _ => rfl) hf (fun x8 hf => ?_)
      refine g_iinc O dX11_moodsTold_58 1 rfl (by decide) (1) (by decide) (fun y => [(3, .int y), (2, .int x8), (0, .ref (za Z i0)), (1, .ref (za Z i1))]) (fun _ => rfl) hf (fun x9 hf => ?_)
      refine g_goto 4 O dX11_moodsTold_61 (by decide) ?_
      exact hI1 _ hf
    · refine g_iconst O dX11_moodsTold_55 (0 : Int32) (by decide) ?_
      refine g_ior O dX11_moodsTold_56 ?_
      refine g_istore_n O dX11_moodsTold_57 rfl (by decide) (fun y => [(2, .int y), (3, .int a1.1), (0, .ref (za Z i0)), (1, .ref (za Z i1))]) (fun _ => rfl) hf (fun x10 hf => ?_)
      refine g_iinc O dX11_moodsTold_58 1 rfl (by decide) (1) (by decide) (fun y => [(3, .int y), (2, .int x10), (0, .ref (za Z i0)), (1, .ref (za Z i1))]) (fun _ => rfl) hf (fun x11 hf => ?_)
      refine g_goto 4 O dX11_moodsTold_61 (by decide) ?_
      exact hI1 _ hf

set_option maxHeartbeats 4000000 in
set_option maxRecDepth 100000 in
theorem ct_X11_numbersTold {Z : ZT} (hZ : ZOk Z) {σ : Mem} {i0 : Nat} {i1 : Nat} (h0 : kn i0 = 11) (h1 : kn i1 = 7) {r : (Int32 × Mem)} (hf : fX11_numbersTold σ i0 i1 = some r) : Ct Z yX11_numbersTold cX11_numbersTold 4 (some .int) 4 116 [.ref (za Z i0), .ref (za Z i1)] σ (some (.int r.1)) True r.2 := by
  refine ct_im hZ (by decide +kernel) (Nat.le_of_ble_eq_true rfl) hf (fun C K O hN hR hf => ?_)
  have O : Ok Z C RX11 cX11_numbersTold 4 4 116 := O
  change G Z C σ 0 [(0, .ref (za Z i0)), (1, .ref (za Z i1))] []
  unfold fX11_numbersTold at hf
  refine g_iconst O dX11_numbersTold_0 (0 : Int32) (by decide) ?_
  refine g_istore_nP O dX11_numbersTold_1 rfl (by decide) [(2, .int (0 : Int32)), (0, .ref (za Z i0)), (1, .ref (za Z i1))] rfl ?_
  refine g_iconst O dX11_numbersTold_2 (0 : Int32) (by decide) ?_
  refine g_istore_nP O dX11_numbersTold_3 rfl (by decide) [(3, .int (0 : Int32)), (2, .int (0 : Int32)), (0, .ref (za Z i0)), (1, .ref (za Z i1))] rfl ?_
  refine g_lp hN (fun (a1 : Int32 × Int32 × Mem) => G Z C a1.2.2 4 [(3, .int a1.1), (2, .int a1.2.1), (0, .ref (za Z i0)), (1, .ref (za Z i1))] []) hf (fun a1 _ hN1 hI1 hX1 hf => ?_)
  unfold sX11_numbersTold_4 at hf
  refine g_iload_n O dX11_numbersTold_4 0 rfl rfl ?_
  refine g_bipush O dX11_numbersTold_5 (8 : Int32) (by decide) ?_
  refine g_icmp_ge 65 O dX11_numbersTold_7 (by decide) hf (fun c2 hf => ?_) (fun c2 hf => ?_)
  · have hf := hX1 _ hf
    refine g_iload_n O dX11_numbersTold_65 1 rfl rfl ?_
    exact hR _ _ hf _ _ dX11_numbersTold_66
  · refine g_aload_n O dX11_numbersTold_10 2 rfl rfl ?_
    refine g_getR O dX11_numbersTold_11 fx_RX11_41 h0 ?_
    refine g_aload_n O dX11_numbersTold_14 2 rfl rfl ?_
    refine g_getR O dX11_numbersTold_15 fx_RX11_21 h0 ?_
    refine g_aload_n O dX11_numbersTold_18 2 rfl rfl ?_
    refine g_getR O dX11_numbersTold_19 fx_RX11_21 h0 ?_
    refine g_getR O dX11_numbersTold_22 fx_RX11_175 (kf_11_1 h0) ?_
    refine g_aload_n O dX11_numbersTold_25 2 rfl rfl ?_
    refine g_getR O dX11_numbersTold_26 fx_RX11_21 h0 ?_
    refine g_getR O dX11_numbersTold_29 fx_RX11_175 (kf_11_1 h0) ?_
    refine g_getI O dX11_numbersTold_32 fx_RX11_325 (kf_0_7 (kf_11_1 h0)) ?_
    refine g_iload_n O dX11_numbersTold_35 0 rfl rfl ?_
    obtain ⟨q3, hq3, hf⟩ := k_obd hN1 hf
    refine g_callV (rest := []) O dX11_numbersTold_36 (ct_X8_say hZ (kf_11_6 h0) (kf_11_1 h0) (kf_0_7 (kf_11_1 h0)) hq3) vx_RX11_328 (kf_11_6 h0) rfl rfl (by decide) (Nat.le_of_ble_eq_true rfl) (fun hp4 => ?_)
    change G Z C q3.2 39 [(3, .int a1.1), (2, .int a1.2.1), (0, .ref (za Z i0)), (1, .ref (za Z i1))] [.int q3.1]
    refine g_pop O dX11_numbersTold_39 rfl ?_
    refine g_iload_n O dX11_numbersTold_40 1 rfl rfl ?_
    refine g_aload_n O dX11_numbersTold_41 2 rfl rfl ?_
    refine g_aload_n O dX11_numbersTold_42 3 rfl rfl ?_
    obtain ⟨q5, hq5, hf⟩ := k_obd hN1 hf
    refine g_callV (rest := [.int a1.2.1]) O dX11_numbersTold_43 (ct_X11_firstOtherwise hZ h0 h1 hq5) vx_RX11_286 h0 rfl rfl (by decide) (Nat.le_of_ble_eq_true rfl) (fun hp6 => ?_)
    change G Z C q3.2 46 [(3, .int a1.1), (2, .int a1.2.1), (0, .ref (za Z i0)), (1, .ref (za Z i1))] [.int q5, .int a1.2.1]
    refine g_iconst O dX11_numbersTold_46 (-1 : Int32) (by decide) ?_
    refine g_icmp_ne 56 O dX11_numbersTold_47 (by decide) hf (fun c7 hf => ?_) (fun c7 hf => ?_)
    · refine g_iconst O dX11_numbersTold_50 (1 : Int32) (by decide) ?_
      refine g_iload_n O dX11_numbersTold_51 0 rfl rfl ?_
      refine g_ishl O dX11_numbersTold_52 ?_
      refine g_goto 57 O dX11_numbersTold_53 (by decide) ?_
      refine g_ior O dX11_numbersTold_57 ?_
      refine g_istore_n O dX11_numbersTold_58 rfl (by decide) (fun y => [(2, .int y), (3, .int a1.1), (0, .ref (za Z i0)), (1, .ref (za Z i1))]) (fun _ => rfl) hf (fun x8 hf => ?_)
      refine g_iinc O dX11_numbersTold_59 1 rfl (by decide) (1) (by decide) (fun y => [(3, .int y), (2, .int x8), (0, .ref (za Z i0)), (1, .ref (za Z i1))]) (fun _ => rfl) hf (fun x9 hf => ?_)
      refine g_goto 4 O dX11_numbersTold_62 (by decide) ?_
      exact hI1 _ hf
    · refine g_iconst O dX11_numbersTold_56 (0 : Int32) (by decide) ?_
      refine g_ior O dX11_numbersTold_57 ?_
      refine g_istore_n O dX11_numbersTold_58 rfl (by decide) (fun y => [(2, .int y), (3, .int a1.1), (0, .ref (za Z i0)), (1, .ref (za Z i1))]) (fun _ => rfl) hf (fun x10 hf => ?_)
      refine g_iinc O dX11_numbersTold_59 1 rfl (by decide) (1) (by decide) (fun y => [(3, .int y), (2, .int x10), (0, .ref (za Z i0)), (1, .ref (za Z i1))]) (fun _ => rfl) hf (fun x11 hf => ?_)
      refine g_goto 4 O dX11_numbersTold_62 (by decide) ?_
      exact hI1 _ hf

set_option maxHeartbeats 4000000 in
set_option maxRecDepth 100000 in
theorem ct_X11_sheetAt {Z : ZT} (hZ : ZOk Z) {σ : Mem} {i0 : Nat} {p1 : Int32} (h0 : kn i0 = 11) {r : (Option Nat)} (hf : fX11_sheetAt σ i0 p1 = some r) : Ct Z yX11_sheetAt cX11_sheetAt 2 (some (.object "PhraseMoods$Sheet")) 0 0 [.ref (za Z i0), .int p1] σ (some (rv Z r)) (∀ i, r = some i → kn i = 7) σ := by
  refine ct_a 7 hZ (by decide +kernel) (Nat.le_of_ble_eq_true rfl) hf (fun C K O hN hR0 hR1 hf => ?_)
  have O : Ok Z C RX11 cX11_sheetAt 2 0 0 := O
  change G Z C σ 0 [(0, .ref (za Z i0)), (1, .int p1)] []
  unfold fX11_sheetAt at hf
  refine g_iload_n O dX11_sheetAt_0 1 rfl rfl ?_
  refine g_if_lt 22 O dX11_sheetAt_1 (by decide) hf (fun c1 hf => ?_) (fun c1 hf => ?_)
  · refine g_null O dX11_sheetAt_22 ?_
    exact hR0 hf _ _ dX11_sheetAt_23
  · refine g_iload_n O dX11_sheetAt_4 1 rfl rfl ?_
    refine g_aload_n O dX11_sheetAt_5 0 rfl rfl ?_
    refine g_getR O dX11_sheetAt_6 fx_RX11_61 h0 ?_
    refine g_alen O dX11_sheetAt_9 (kf_11_9 h0) (by decide) ?_
    refine g_icmp_ge 22 O dX11_sheetAt_10 (by decide) hf (fun c2 hf => ?_) (fun c2 hf => ?_)
    · refine g_null O dX11_sheetAt_22 ?_
      exact hR0 hf _ _ dX11_sheetAt_23
    · refine g_aload_n O dX11_sheetAt_13 0 rfl rfl ?_
      refine g_getR O dX11_sheetAt_14 fx_RX11_61 h0 ?_
      refine g_iload_n O dX11_sheetAt_17 1 rfl rfl ?_
      refine g_aald O hN dX11_sheetAt_18 (kf_11_9 h0) (by decide) (el_24 (kf_11_9 h0)) hf (fun hb3 hf => ?_)
      refine g_goto 23 O dX11_sheetAt_19 (by decide) ?_
      exact hR1 _ hf (ke_24 (kf_11_9 h0) (inb_lt hb3)) _ _ dX11_sheetAt_23

set_option maxHeartbeats 4000000 in
set_option maxRecDepth 100000 in
theorem ct_X11_tells {Z : ZT} (hZ : ZOk Z) {σ : Mem} {i0 : Nat} {p1 : Int32} {p2 : Int32} (h0 : kn i0 = 11) {r : (Int32 × Mem)} (hf : fX11_tells σ i0 p1 p2 = some r) : Ct Z yX11_tells cX11_tells 4 (some .int) 5 139 [.ref (za Z i0), .int p1, .int p2] σ (some (.int r.1)) True r.2 := by
  refine ct_im hZ (by decide +kernel) (Nat.le_of_ble_eq_true rfl) hf (fun C K O hN hR hf => ?_)
  have O : Ok Z C RX11 cX11_tells 4 5 139 := O
  change G Z C σ 0 [(0, .ref (za Z i0)), (1, .int p1), (2, .int p2)] []
  unfold fX11_tells at hf
  refine g_aload_n O dX11_tells_0 0 rfl rfl ?_
  refine g_iload_n O dX11_tells_1 1 rfl rfl ?_
  obtain ⟨q1, hq1, hf⟩ := k_obd hN hf
  refine g_callV (rest := []) O dX11_tells_2 (ct_X11_sheetAt hZ h0 hq1) vx_RX11_280 h0 rfl rfl (by decide) (Nat.le_of_ble_eq_true rfl) (fun hp2 => ?_)
  refine k_ocs hf (fun he hf1 => ?_) (fun w3 he hf1 => ?_)
  · subst he
    have hf := hf1
    change G Z C σ 5 [(0, .ref (za Z i0)), (1, .int p1), (2, .int p2)] [.null]
    refine g_astore_nN O dX11_tells_5 rfl (by decide) [(3, .null), (0, .ref (za Z i0)), (1, .int p1), (2, .int p2)] rfl ?_
    refine g_aload_nN O dX11_tells_6 0 rfl rfl ?_
    refine g_ifnullN 19 O dX11_tells_7 (by decide) ?_
    refine g_bipush O dX11_tells_19 (-2 : Int32) (by decide) ?_
    exact hR _ _ hf _ _ dX11_tells_21
  · subst he
    have hf := hf1
    change G Z C σ 5 [(0, .ref (za Z i0)), (1, .int p1), (2, .int p2)] [.ref (za Z w3)]
    refine g_astore_nP O dX11_tells_5 rfl (by decide) [(3, .ref (za Z w3)), (0, .ref (za Z i0)), (1, .int p1), (2, .int p2)] rfl ?_
    refine g_aload_n O dX11_tells_6 0 rfl rfl ?_
    refine g_ifnullR O dX11_tells_7 ?_
    refine g_iload_n O dX11_tells_10 3 rfl rfl ?_
    refine g_if_lt 19 O dX11_tells_11 (by decide) hf (fun c4 hf => ?_) (fun c4 hf => ?_)
    · refine g_bipush O dX11_tells_19 (-2 : Int32) (by decide) ?_
      exact hR _ _ hf _ _ dX11_tells_21
    · refine g_iload_n O dX11_tells_14 3 rfl rfl ?_
      refine g_iconst O dX11_tells_15 (2 : Int32) (by decide) ?_
      refine g_icmp_le 22 O dX11_tells_16 (by decide) hf (fun c5 hf => ?_) (fun c5 hf => ?_)
      · refine g_aload_n O dX11_tells_22 0 rfl rfl ?_
        obtain ⟨q6, hq6, hf⟩ := k_obd hN hf
        refine g_callV (rest := []) O dX11_tells_23 (ct_X7_isMissing hZ (hp2 _ rfl) hq6) vx_RX11_284 (hp2 _ rfl) rfl rfl (by decide) (Nat.le_of_ble_eq_true rfl) (fun hp7 => ?_)
        change G Z C σ 26 [(3, .ref (za Z w3)), (0, .ref (za Z i0)), (1, .int p1), (2, .int p2)] [.int q6]
        refine g_if_eq 32 O dX11_tells_26 (by decide) hf (fun c8 hf => ?_) (fun c8 hf => ?_)
        · refine g_aload_n O dX11_tells_32 0 rfl rfl ?_
          refine g_getI O dX11_tells_33 fx_RX11_285 (hp2 _ rfl) ?_
          refine g_bipush O dX11_tells_36 (6 : Int32) (by decide) ?_
          refine g_icmp_le 44 O dX11_tells_38 (by decide) hf (fun c9 hf => ?_) (fun c9 hf => ?_)
          · refine g_aload_n O dX11_tells_44 1 rfl rfl ?_
            obtain ⟨q10, hq10, hf⟩ := k_obd hN hf
            refine g_callV (rest := []) O dX11_tells_45 (ct_X11_sayDesk hZ h0 hq10) vx_RX11_205 h0 rfl rfl (by decide) (Nat.le_of_ble_eq_true rfl) (fun hp11 => ?_)
            change G Z C q10.2 48 [(3, .ref (za Z w3)), (0, .ref (za Z i0)), (1, .int p1), (2, .int p2)] [.int q10.1]
            refine g_if_ne 54 O dX11_tells_48 (by decide) hf (fun c12 hf => ?_) (fun c12 hf => ?_)
            · refine g_bipush O dX11_tells_51 (-3 : Int32) (by decide) ?_
              exact hR _ _ hf _ _ dX11_tells_53
            · refine g_iload_n O dX11_tells_54 3 rfl rfl ?_
              refine g_if_ne 66 O dX11_tells_55 (by decide) hf (fun c13 hf => ?_) (fun c13 hf => ?_)
              · refine g_aload_n O dX11_tells_58 1 rfl rfl ?_
                refine g_aload_n O dX11_tells_59 0 rfl rfl ?_
                obtain ⟨q14, hq14, hf⟩ := k_obd hN hf
                refine g_callV (rest := []) O dX11_tells_60 (ct_X11_firstOtherwise hZ h0 (hp2 _ rfl) hq14) vx_RX11_286 h0 rfl rfl (by decide) (Nat.le_of_ble_eq_true rfl) (fun hp15 => ?_)
                change G Z C q10.2 63 [(3, .ref (za Z w3)), (0, .ref (za Z i0)), (1, .int p1), (2, .int p2)] [.int q14]
                refine g_goto 84 O dX11_tells_63 (by decide) ?_
                exact hR _ _ hf _ _ dX11_tells_84
              · refine g_iload_n O dX11_tells_66 3 rfl rfl ?_
                refine g_iconst O dX11_tells_67 (1 : Int32) (by decide) ?_
                refine g_icmp_ne 79 O dX11_tells_68 (by decide) hf (fun c16 hf => ?_) (fun c16 hf => ?_)
                · refine g_aload_n O dX11_tells_71 1 rfl rfl ?_
                  refine g_aload_n O dX11_tells_72 0 rfl rfl ?_
                  obtain ⟨q17, hq17, hf⟩ := k_obd hN hf
                  refine g_callV (rest := []) O dX11_tells_73 (ct_X11_moodsTold hZ h0 (hp2 _ rfl) hq17) vx_RX11_290 h0 rfl rfl (by decide) (Nat.le_of_ble_eq_true rfl) (fun hp18 => ?_)
                  change G Z C q17.2 76 [(3, .ref (za Z w3)), (0, .ref (za Z i0)), (1, .int p1), (2, .int p2)] [.int q17.1]
                  refine g_goto 84 O dX11_tells_76 (by decide) ?_
                  exact hR _ _ hf _ _ dX11_tells_84
                · refine g_aload_n O dX11_tells_79 1 rfl rfl ?_
                  refine g_aload_n O dX11_tells_80 0 rfl rfl ?_
                  obtain ⟨q19, hq19, hf⟩ := k_obd hN hf
                  refine g_callV (rest := []) O dX11_tells_81 (ct_X11_numbersTold hZ h0 (hp2 _ rfl) hq19) vx_RX11_293 h0 rfl rfl (by decide) (Nat.le_of_ble_eq_true rfl) (fun hp20 => ?_)
                  change G Z C q19.2 84 [(3, .ref (za Z w3)), (0, .ref (za Z i0)), (1, .int p1), (2, .int p2)] [.int q19.1]
                  exact hR _ _ hf _ _ dX11_tells_84
          · refine g_bipush O dX11_tells_41 (-2 : Int32) (by decide) ?_
            exact hR _ _ hf _ _ dX11_tells_43
        · refine g_bipush O dX11_tells_29 (-11 : Int32) (by decide) ?_
          exact hR _ _ hf _ _ dX11_tells_31
      · refine g_bipush O dX11_tells_19 (-2 : Int32) (by decide) ?_
        exact hR _ _ hf _ _ dX11_tells_21

set_option maxHeartbeats 4000000 in
set_option maxRecDepth 100000 in
theorem ct_X11_image {Z : ZT} (hZ : ZOk Z) {σ : Mem} {i0 : Nat} (h0 : kn i0 = 11) {r : (Int32 × Mem)} (hf : fX11_image σ i0 = some r) : Ct Z yX11_image cX11_image 1 (some .int) 5 128 [.ref (za Z i0)] σ (some (.int r.1)) True r.2 := by
  refine ct_im hZ (by decide +kernel) (Nat.le_of_ble_eq_true rfl) hf (fun C K O hN hR hf => ?_)
  have O : Ok Z C RX11 cX11_image 1 5 128 := O
  change G Z C σ 0 [(0, .ref (za Z i0))] []
  unfold fX11_image at hf
  refine g_aload_n O dX11_image_0 0 rfl rfl ?_
  refine g_getR O dX11_image_1 fx_RX11_25 h0 ?_
  refine g_aload_n O dX11_image_4 0 rfl rfl ?_
  refine g_getR O dX11_image_5 fx_RX11_21 h0 ?_
  obtain ⟨q1, hq1, hf⟩ := k_obd hN hf
  refine g_callV (rest := []) O dX11_image_8 (ct_X0_become hZ (kf_11_2 h0) (kf_11_1 h0) hq1) vx_RX11_296 (kf_11_2 h0) rfl rfl (by decide) (Nat.le_of_ble_eq_true rfl) (fun hp2 => ?_)
  change G Z C q1 11 [(0, .ref (za Z i0))] []
  refine g_aload_n O dX11_image_11 0 rfl rfl ?_
  refine g_iconst O dX11_image_12 (1 : Int32) (by decide) ?_
  refine g_put O dX11_image_13 fp_RX11_299 h0 rfl rfl hf (fun m3 hf => ?_)
  refine g_aload_n O dX11_image_16 0 rfl rfl ?_
  refine g_getR O dX11_image_17 fx_RX11_25 h0 ?_
  refine g_getI O dX11_image_20 fx_RX11_303 (kf_11_2 h0) ?_
  exact hR _ _ hf _ _ dX11_image_23

set_option maxHeartbeats 4000000 in
set_option maxRecDepth 100000 in
theorem ct_X11_back {Z : ZT} (hZ : ZOk Z) {σ : Mem} {i0 : Nat} (h0 : kn i0 = 11) {r : (Int32 × Mem)} (hf : fX11_back σ i0 = some r) : Ct Z yX11_back cX11_back 1 (some .int) 5 128 [.ref (za Z i0)] σ (some (.int r.1)) True r.2 := by
  refine ct_im hZ (by decide +kernel) (Nat.le_of_ble_eq_true rfl) hf (fun C K O hN hR hf => ?_)
  have O : Ok Z C RX11 cX11_back 1 5 128 := O
  change G Z C σ 0 [(0, .ref (za Z i0))] []
  unfold fX11_back at hf
  refine g_aload_n O dX11_back_0 0 rfl rfl ?_
  refine g_getI O dX11_back_1 fx_RX11_299 h0 ?_
  refine g_if_ne 10 O dX11_back_4 (by decide) hf (fun c1 hf => ?_) (fun c1 hf => ?_)
  · refine g_bipush O dX11_back_7 (-3 : Int32) (by decide) ?_
    exact hR _ _ hf _ _ dX11_back_9
  · refine g_aload_n O dX11_back_10 0 rfl rfl ?_
    refine g_getR O dX11_back_11 fx_RX11_21 h0 ?_
    refine g_aload_n O dX11_back_14 0 rfl rfl ?_
    refine g_getR O dX11_back_15 fx_RX11_25 h0 ?_
    obtain ⟨q2, hq2, hf⟩ := k_obd hN hf
    refine g_callV (rest := []) O dX11_back_18 (ct_X0_become hZ (kf_11_1 h0) (kf_11_2 h0) hq2) vx_RX11_296 (kf_11_1 h0) rfl rfl (by decide) (Nat.le_of_ble_eq_true rfl) (fun hp3 => ?_)
    change G Z C q2 21 [(0, .ref (za Z i0))] []
    refine g_aload_n O dX11_back_21 0 rfl rfl ?_
    refine g_getR O dX11_back_22 fx_RX11_21 h0 ?_
    refine g_getI O dX11_back_25 fx_RX11_303 (kf_11_1 h0) ?_
    exact hR _ _ hf _ _ dX11_back_28

set_option maxHeartbeats 4000000 in
set_option maxRecDepth 100000 in
theorem ct_X11_count {Z : ZT} (hZ : ZOk Z) {σ : Mem} {i0 : Nat} {p1 : Int32} (h0 : kn i0 = 11) {r : (Int32 × Mem)} (hf : fX11_count σ i0 p1 = some r) : Ct Z yX11_count cX11_count 2 (some .int) 5 136 [.ref (za Z i0), .int p1] σ (some (.int r.1)) True r.2 := by
  refine ct_im hZ (by decide +kernel) (Nat.le_of_ble_eq_true rfl) hf (fun C K O hN hR hf => ?_)
  have O : Ok Z C RX11 cX11_count 2 5 136 := O
  change G Z C σ 0 [(0, .ref (za Z i0)), (1, .int p1)] []
  unfold fX11_count at hf
  refine g_iload_n O dX11_count_0 1 rfl rfl ?_
  refine k_if hf (fun c1 hf => ?_) (fun c1 hf => ?_)
  · refine g_tabIn (off := 35) 36 O dX11_count_1 c1 (by decide) (by decide) (by decide) (by decide) ?_
    refine g_aload_n O dX11_count_36 0 rfl rfl ?_
    refine g_getR O dX11_count_37 fx_RX11_21 h0 ?_
    refine g_getI O dX11_count_40 fx_RX11_303 (kf_11_1 h0) ?_
    exact hR _ _ hf _ _ dX11_count_43
  refine k_if hf (fun c2 hf => ?_) (fun c2 hf => ?_)
  · refine g_tabIn (off := 43) 44 O dX11_count_1 c2 (by decide) (by decide) (by decide) (by decide) ?_
    refine g_aload_n O dX11_count_44 0 rfl rfl ?_
    refine g_getR O dX11_count_45 fx_RX11_21 h0 ?_
    refine g_getI O dX11_count_48 fx_RX11_251 (kf_11_1 h0) ?_
    exact hR _ _ hf _ _ dX11_count_51
  refine k_if hf (fun c3 hf => ?_) (fun c3 hf => ?_)
  · refine g_tabIn (off := 51) 52 O dX11_count_1 c3 (by decide) (by decide) (by decide) (by decide) ?_
    refine g_aload_n O dX11_count_52 0 rfl rfl ?_
    refine g_getR O dX11_count_53 fx_RX11_21 h0 ?_
    refine g_getR O dX11_count_56 fx_RX11_222 (kf_11_1 h0) ?_
    obtain ⟨q4, hq4, hf⟩ := k_obd hN hf
    refine g_callV (rest := []) O dX11_count_59 (ct_X5_words hZ (kf_0_6 (kf_11_1 h0)) hq4) vx_RX11_225 (kf_0_6 (kf_11_1 h0)) rfl rfl (by decide) (Nat.le_of_ble_eq_true rfl) (fun hp5 => ?_)
    change G Z C σ 62 [(0, .ref (za Z i0)), (1, .int p1)] [.int q4]
    exact hR _ _ hf _ _ dX11_count_62
  refine k_if hf (fun c6 hf => ?_) (fun c6 hf => ?_)
  · refine g_tabIn (off := 62) 63 O dX11_count_1 c6 (by decide) (by decide) (by decide) (by decide) ?_
    refine g_aload_n O dX11_count_63 0 rfl rfl ?_
    obtain ⟨q7, hq7, hf⟩ := k_obd hN hf
    refine g_callV (rest := []) O dX11_count_64 (ct_X11_sayDesk hZ h0 hq7) vx_RX11_205 h0 rfl rfl (by decide) (Nat.le_of_ble_eq_true rfl) (fun hp8 => ?_)
    change G Z C q7.2 67 [(0, .ref (za Z i0)), (1, .int p1)] [.int q7.1]
    refine g_pop O dX11_count_67 rfl ?_
    refine g_aload_n O dX11_count_68 0 rfl rfl ?_
    refine g_getR O dX11_count_69 fx_RX11_41 h0 ?_
    refine g_getR O dX11_count_72 fx_RX11_208 (kf_11_6 h0) ?_
    refine g_getI O dX11_count_75 fx_RX11_77 (kf_8_1 (kf_11_6 h0)) ?_
    exact hR _ _ hf _ _ dX11_count_78
  refine k_if hf (fun c9 hf => ?_) (fun c9 hf => ?_)
  · refine g_tabIn (off := 78) 79 O dX11_count_1 c9 (by decide) (by decide) (by decide) (by decide) ?_
    refine g_aload_n O dX11_count_79 0 rfl rfl ?_
    refine g_getR O dX11_count_80 fx_RX11_14 h0 ?_
    refine g_getI O dX11_count_83 fx_RX11_77 (kf_11_0 h0) ?_
    exact hR _ _ hf _ _ dX11_count_86
  refine g_tabOut 87 O dX11_count_1 (by have h0 := ti_ne c1 (n := 0) (by decide); have h1 := ti_ne c2 (n := 1) (by decide); have h2 := ti_ne c3 (n := 2) (by decide); have h3 := ti_ne c6 (n := 3) (by decide); have h4 := ti_ne c9 (n := 4) (by decide); omega) (by decide) ?_
  refine g_bipush O dX11_count_87 (-2 : Int32) (by decide) ?_
  exact hR _ _ hf _ _ dX11_count_89

set_option maxHeartbeats 4000000 in
set_option maxRecDepth 100000 in
theorem ct_X11_sheet {Z : ZT} (hZ : ZOk Z) {σ : Mem} {i0 : Nat} {p1 : Int32} {p2 : Int32} {p3 : Int32} (h0 : kn i0 = 11) {r : (Int32 × Mem)} (hf : fX11_sheet σ i0 p1 p2 p3 = some r) : Ct Z yX11_sheet cX11_sheet 5 (some .int) 2 45 [.ref (za Z i0), .int p1, .int p2, .int p3] σ (some (.int r.1)) True r.2 := by
  refine ct_im hZ (by decide +kernel) (Nat.le_of_ble_eq_true rfl) hf (fun C K O hN hR hf => ?_)
  have O : Ok Z C RX11 cX11_sheet 5 2 45 := O
  change G Z C σ 0 [(0, .ref (za Z i0)), (1, .int p1), (2, .int p2), (3, .int p3)] []
  unfold fX11_sheet at hf
  refine g_aload_n O dX11_sheet_0 0 rfl rfl ?_
  refine g_iload_n O dX11_sheet_1 1 rfl rfl ?_
  obtain ⟨q1, hq1, hf⟩ := k_obd hN hf
  refine g_callV (rest := []) O dX11_sheet_2 (ct_X11_sheetAt hZ h0 hq1) vx_RX11_280 h0 rfl rfl (by decide) (Nat.le_of_ble_eq_true rfl) (fun hp2 => ?_)
  refine k_ocs hf (fun he hf1 => ?_) (fun w3 he hf1 => ?_)
  · subst he
    have hf := hf1
    change G Z C σ 5 [(0, .ref (za Z i0)), (1, .int p1), (2, .int p2), (3, .int p3)] [.null]
    refine g_astoreN O dX11_sheet_5 (by decide) [(4, .null), (0, .ref (za Z i0)), (1, .int p1), (2, .int p2), (3, .int p3)] rfl ?_
    refine g_aloadN O dX11_sheet_7 0 rfl ?_
    refine g_ifnullN 22 O dX11_sheet_9 (by decide) ?_
    refine g_bipush O dX11_sheet_22 (-2 : Int32) (by decide) ?_
    exact hR _ _ hf _ _ dX11_sheet_24
  · subst he
    have hf := hf1
    change G Z C σ 5 [(0, .ref (za Z i0)), (1, .int p1), (2, .int p2), (3, .int p3)] [.ref (za Z w3)]
    refine g_astoreP O dX11_sheet_5 (by decide) [(4, .ref (za Z w3)), (0, .ref (za Z i0)), (1, .int p1), (2, .int p2), (3, .int p3)] rfl ?_
    refine g_aload O dX11_sheet_7 0 rfl ?_
    refine g_ifnullR O dX11_sheet_9 ?_
    refine g_iload_n O dX11_sheet_12 3 rfl rfl ?_
    refine g_iconst O dX11_sheet_13 (-1 : Int32) (by decide) ?_
    refine g_icmp_lt 22 O dX11_sheet_14 (by decide) hf (fun c4 hf => ?_) (fun c4 hf => ?_)
    · refine g_bipush O dX11_sheet_22 (-2 : Int32) (by decide) ?_
      exact hR _ _ hf _ _ dX11_sheet_24
    · refine g_iload_n O dX11_sheet_17 3 rfl rfl ?_
      refine g_iconst O dX11_sheet_18 (1 : Int32) (by decide) ?_
      refine g_icmp_le 25 O dX11_sheet_19 (by decide) hf (fun c5 hf => ?_) (fun c5 hf => ?_)
      · refine g_iload_n O dX11_sheet_25 3 rfl rfl ?_
        refine g_iconst O dX11_sheet_26 (-1 : Int32) (by decide) ?_
        refine g_icmp_ne 39 O dX11_sheet_27 (by decide) hf (fun c6 hf => ?_) (fun c6 hf => ?_)
        · refine g_aload O dX11_sheet_30 0 rfl ?_
          refine g_iconst O dX11_sheet_32 (-1 : Int32) (by decide) ?_
          refine g_iconst O dX11_sheet_33 (0 : Int32) (by decide) ?_
          obtain ⟨q7, hq7, hf⟩ := k_obd hN hf
          refine g_callV (rest := []) O dX11_sheet_34 (ct_X7_begin hZ (hp2 _ rfl) hq7) vx_RX11_306 (hp2 _ rfl) rfl rfl (by decide) (Nat.le_of_ble_eq_true rfl) (fun hp8 => ?_)
          change G Z C q7 37 [(4, .ref (za Z w3)), (0, .ref (za Z i0)), (1, .int p1), (2, .int p2), (3, .int p3)] []
          refine g_iconst O dX11_sheet_37 (1 : Int32) (by decide) ?_
          exact hR _ _ hf _ _ dX11_sheet_38
        · refine g_iload_n O dX11_sheet_39 4 rfl rfl ?_
          refine g_bipush O dX11_sheet_40 (40 : Int32) (by decide) ?_
          refine g_icmp_le 48 O dX11_sheet_42 (by decide) hf (fun c9 hf => ?_) (fun c9 hf => ?_)
          · refine g_iload_n O dX11_sheet_48 4 rfl rfl ?_
            refine g_if_ge 55 O dX11_sheet_49 (by decide) hf (fun c10 hf => ?_) (fun c10 hf => ?_)
            · refine g_aload O dX11_sheet_55 0 rfl ?_
              refine g_iload_n O dX11_sheet_57 3 rfl rfl ?_
              refine g_iload_n O dX11_sheet_58 4 rfl rfl ?_
              obtain ⟨q11, hq11, hf⟩ := k_obd hN hf
              refine g_callV (rest := []) O dX11_sheet_59 (ct_X7_begin hZ (hp2 _ rfl) hq11) vx_RX11_306 (hp2 _ rfl) rfl rfl (by decide) (Nat.le_of_ble_eq_true rfl) (fun hp12 => ?_)
              change G Z C q11 62 [(4, .ref (za Z w3)), (0, .ref (za Z i0)), (1, .int p1), (2, .int p2), (3, .int p3)] []
              refine g_iconst O dX11_sheet_62 (1 : Int32) (by decide) ?_
              exact hR _ _ hf _ _ dX11_sheet_63
            · refine g_bipush O dX11_sheet_52 (-14 : Int32) (by decide) ?_
              exact hR _ _ hf _ _ dX11_sheet_54
          · refine g_bipush O dX11_sheet_45 (-2 : Int32) (by decide) ?_
            exact hR _ _ hf _ _ dX11_sheet_47
      · refine g_bipush O dX11_sheet_22 (-2 : Int32) (by decide) ?_
        exact hR _ _ hf _ _ dX11_sheet_24

set_option maxHeartbeats 4000000 in
set_option maxRecDepth 100000 in
theorem ct_X11_put {Z : ZT} (hZ : ZOk Z) {σ : Mem} {i0 : Nat} {p1 : Int32} {p2 : Int32} {p3 : Int32} (h0 : kn i0 = 11) {r : (Int32 × Mem)} (hf : fX11_put σ i0 p1 p2 p3 = some r) : Ct Z yX11_put cX11_put 5 (some .int) 2 44 [.ref (za Z i0), .int p1, .int p2, .int p3] σ (some (.int r.1)) True r.2 := by
  refine ct_im hZ (by decide +kernel) (Nat.le_of_ble_eq_true rfl) hf (fun C K O hN hR hf => ?_)
  have O : Ok Z C RX11 cX11_put 5 2 44 := O
  change G Z C σ 0 [(0, .ref (za Z i0)), (1, .int p1), (2, .int p2), (3, .int p3)] []
  unfold fX11_put at hf
  refine g_aload_n O dX11_put_0 0 rfl rfl ?_
  refine g_iload_n O dX11_put_1 1 rfl rfl ?_
  obtain ⟨q1, hq1, hf⟩ := k_obd hN hf
  refine g_callV (rest := []) O dX11_put_2 (ct_X11_sheetAt hZ h0 hq1) vx_RX11_280 h0 rfl rfl (by decide) (Nat.le_of_ble_eq_true rfl) (fun hp2 => ?_)
  refine k_ocs hf (fun he hf1 => ?_) (fun w3 he hf1 => ?_)
  · subst he
    have hf := hf1
    change G Z C σ 5 [(0, .ref (za Z i0)), (1, .int p1), (2, .int p2), (3, .int p3)] [.null]
    refine g_astoreN O dX11_put_5 (by decide) [(4, .null), (0, .ref (za Z i0)), (1, .int p1), (2, .int p2), (3, .int p3)] rfl ?_
    refine g_aloadN O dX11_put_7 0 rfl ?_
    refine g_ifnonnullN O dX11_put_9 ?_
    refine g_bipush O dX11_put_12 (-2 : Int32) (by decide) ?_
    exact hR _ _ hf _ _ dX11_put_14
  · subst he
    have hf := hf1
    change G Z C σ 5 [(0, .ref (za Z i0)), (1, .int p1), (2, .int p2), (3, .int p3)] [.ref (za Z w3)]
    refine g_astoreP O dX11_put_5 (by decide) [(4, .ref (za Z w3)), (0, .ref (za Z i0)), (1, .int p1), (2, .int p2), (3, .int p3)] rfl ?_
    refine g_aload O dX11_put_7 0 rfl ?_
    refine g_ifnonnullR 15 O dX11_put_9 (by decide) ?_
    refine g_aload O dX11_put_15 0 rfl ?_
    obtain ⟨q4, hq4, hf⟩ := k_obd hN hf
    refine g_callV (rest := []) O dX11_put_17 (ct_X7_isMissing hZ (hp2 _ rfl) hq4) vx_RX11_284 (hp2 _ rfl) rfl rfl (by decide) (Nat.le_of_ble_eq_true rfl) (fun hp5 => ?_)
    change G Z C σ 20 [(4, .ref (za Z w3)), (0, .ref (za Z i0)), (1, .int p1), (2, .int p2), (3, .int p3)] [.int q4]
    refine g_if_eq 26 O dX11_put_20 (by decide) hf (fun c6 hf => ?_) (fun c6 hf => ?_)
    · refine g_aload O dX11_put_26 0 rfl ?_
      refine g_iload_n O dX11_put_28 3 rfl rfl ?_
      refine g_iconst O dX11_put_29 (1 : Int32) (by decide) ?_
      obtain ⟨q7, hq7, hf⟩ := k_obd hN hf
      refine g_callV (rest := []) O dX11_put_30 (ct_X7_hasRun hZ (hp2 _ rfl) hq7) vx_RX11_307 (hp2 _ rfl) rfl rfl (by decide) (Nat.le_of_ble_eq_true rfl) (fun hp8 => ?_)
      change G Z C σ 33 [(4, .ref (za Z w3)), (0, .ref (za Z i0)), (1, .int p1), (2, .int p2), (3, .int p3)] [.int q7]
      refine g_if_ne 39 O dX11_put_33 (by decide) hf (fun c9 hf => ?_) (fun c9 hf => ?_)
      · refine g_bipush O dX11_put_36 (-12 : Int32) (by decide) ?_
        exact hR _ _ hf _ _ dX11_put_38
      · refine g_aload O dX11_put_39 0 rfl ?_
        refine g_iload_n O dX11_put_41 3 rfl rfl ?_
        refine g_iload_n O dX11_put_42 4 rfl rfl ?_
        obtain ⟨q10, hq10, hf⟩ := k_obd hN hf
        refine g_callV (rest := []) O dX11_put_43 (ct_X7_set hZ (hp2 _ rfl) hq10) vx_RX11_310 (hp2 _ rfl) rfl rfl (by decide) (Nat.le_of_ble_eq_true rfl) (fun hp11 => ?_)
        change G Z C q10 46 [(4, .ref (za Z w3)), (0, .ref (za Z i0)), (1, .int p1), (2, .int p2), (3, .int p3)] []
        refine g_iconst O dX11_put_46 (1 : Int32) (by decide) ?_
        exact hR _ _ hf _ _ dX11_put_47
    · refine g_bipush O dX11_put_23 (-11 : Int32) (by decide) ?_
      exact hR _ _ hf _ _ dX11_put_25

set_option maxHeartbeats 4000000 in
set_option maxRecDepth 100000 in
theorem ct_X11_copy {Z : ZT} (hZ : ZOk Z) {σ : Mem} {i0 : Nat} {p1 : Int32} {p2 : Int32} {p3 : Int32} {p4 : Int32} {p5 : Int32} (h0 : kn i0 = 11) {r : (Int32 × Mem)} (hf : fX11_copy σ i0 p1 p2 p3 p4 p5 = some r) : Ct Z yX11_copy cX11_copy 8 (some .int) 2 64 [.ref (za Z i0), .int p1, .int p2, .int p3, .int p4, .int p5] σ (some (.int r.1)) True r.2 := by
  refine ct_im hZ (by decide +kernel) (Nat.le_of_ble_eq_true rfl) hf (fun C K O hN hR hf => ?_)
  have O : Ok Z C RX11 cX11_copy 8 2 64 := O
  change G Z C σ 0 [(0, .ref (za Z i0)), (1, .int p1), (2, .int p2), (3, .int p3), (4, .int p4), (5, .int p5)] []
  unfold fX11_copy at hf
  refine g_aload_n O dX11_copy_0 0 rfl rfl ?_
  refine g_iload_n O dX11_copy_1 1 rfl rfl ?_
  obtain ⟨q1, hq1, hf⟩ := k_obd hN hf
  refine g_callV (rest := []) O dX11_copy_2 (ct_X11_sheetAt hZ h0 hq1) vx_RX11_280 h0 rfl rfl (by decide) (Nat.le_of_ble_eq_true rfl) (fun hp2 => ?_)
  refine k_ocs hf (fun he hf1 => ?_) (fun w3 he hf1 => ?_)
  · subst he
    have hf := hf1
    change G Z C σ 5 [(0, .ref (za Z i0)), (1, .int p1), (2, .int p2), (3, .int p3), (4, .int p4), (5, .int p5)] [.null]
    refine g_astoreN O dX11_copy_5 (by decide) [(6, .null), (0, .ref (za Z i0)), (1, .int p1), (2, .int p2), (3, .int p3), (4, .int p4), (5, .int p5)] rfl ?_
    refine g_aload_n O dX11_copy_7 1 rfl rfl ?_
    refine g_iload_n O dX11_copy_8 4 rfl rfl ?_
    obtain ⟨q4, hq4, hf⟩ := k_obd hN hf
    refine g_callV (rest := []) O dX11_copy_9 (ct_X11_sheetAt hZ h0 hq4) vx_RX11_280 h0 rfl rfl (by decide) (Nat.le_of_ble_eq_true rfl) (fun hp5 => ?_)
    refine k_ocs hf (fun he hf1 => ?_) (fun w6 he hf1 => ?_)
    · subst he
      have hf := hf1
      change G Z C σ 12 [(6, .null), (0, .ref (za Z i0)), (1, .int p1), (2, .int p2), (3, .int p3), (4, .int p4), (5, .int p5)] [.null]
      refine g_astoreN O dX11_copy_12 (by decide) [(7, .null), (6, .null), (0, .ref (za Z i0)), (1, .int p1), (2, .int p2), (3, .int p3), (4, .int p4), (5, .int p5)] rfl ?_
      refine g_aloadN O dX11_copy_14 1 rfl ?_
      refine g_ifnullN 24 O dX11_copy_16 (by decide) ?_
      refine g_bipush O dX11_copy_24 (-2 : Int32) (by decide) ?_
      exact hR _ _ hf _ _ dX11_copy_26
    · subst he
      have hf := hf1
      change G Z C σ 12 [(6, .null), (0, .ref (za Z i0)), (1, .int p1), (2, .int p2), (3, .int p3), (4, .int p4), (5, .int p5)] [.ref (za Z w6)]
      refine g_astoreP O dX11_copy_12 (by decide) [(7, .ref (za Z w6)), (6, .null), (0, .ref (za Z i0)), (1, .int p1), (2, .int p2), (3, .int p3), (4, .int p4), (5, .int p5)] rfl ?_
      refine g_aloadN O dX11_copy_14 1 rfl ?_
      refine g_ifnullN 24 O dX11_copy_16 (by decide) ?_
      refine g_bipush O dX11_copy_24 (-2 : Int32) (by decide) ?_
      exact hR _ _ hf _ _ dX11_copy_26
  · subst he
    have hf := hf1
    change G Z C σ 5 [(0, .ref (za Z i0)), (1, .int p1), (2, .int p2), (3, .int p3), (4, .int p4), (5, .int p5)] [.ref (za Z w3)]
    refine g_astoreP O dX11_copy_5 (by decide) [(6, .ref (za Z w3)), (0, .ref (za Z i0)), (1, .int p1), (2, .int p2), (3, .int p3), (4, .int p4), (5, .int p5)] rfl ?_
    refine g_aload_n O dX11_copy_7 1 rfl rfl ?_
    refine g_iload_n O dX11_copy_8 4 rfl rfl ?_
    obtain ⟨q7, hq7, hf⟩ := k_obd hN hf
    refine g_callV (rest := []) O dX11_copy_9 (ct_X11_sheetAt hZ h0 hq7) vx_RX11_280 h0 rfl rfl (by decide) (Nat.le_of_ble_eq_true rfl) (fun hp8 => ?_)
    refine k_ocs hf (fun he hf1 => ?_) (fun w9 he hf1 => ?_)
    · subst he
      have hf := hf1
      change G Z C σ 12 [(6, .ref (za Z w3)), (0, .ref (za Z i0)), (1, .int p1), (2, .int p2), (3, .int p3), (4, .int p4), (5, .int p5)] [.null]
      refine g_astoreN O dX11_copy_12 (by decide) [(7, .null), (6, .ref (za Z w3)), (0, .ref (za Z i0)), (1, .int p1), (2, .int p2), (3, .int p3), (4, .int p4), (5, .int p5)] rfl ?_
      refine g_aload O dX11_copy_14 1 rfl ?_
      refine g_ifnullR O dX11_copy_16 ?_
      refine g_aloadN O dX11_copy_19 0 rfl ?_
      refine g_ifnonnullN O dX11_copy_21 ?_
      refine g_bipush O dX11_copy_24 (-2 : Int32) (by decide) ?_
      exact hR _ _ hf _ _ dX11_copy_26
    · subst he
      have hf := hf1
      change G Z C σ 12 [(6, .ref (za Z w3)), (0, .ref (za Z i0)), (1, .int p1), (2, .int p2), (3, .int p3), (4, .int p4), (5, .int p5)] [.ref (za Z w9)]
      refine g_astoreP O dX11_copy_12 (by decide) [(7, .ref (za Z w9)), (6, .ref (za Z w3)), (0, .ref (za Z i0)), (1, .int p1), (2, .int p2), (3, .int p3), (4, .int p4), (5, .int p5)] rfl ?_
      refine g_aload O dX11_copy_14 1 rfl ?_
      refine g_ifnullR O dX11_copy_16 ?_
      refine g_aload O dX11_copy_19 0 rfl ?_
      refine g_ifnonnullR 27 O dX11_copy_21 (by decide) ?_
      refine g_aload O dX11_copy_27 1 rfl ?_
      obtain ⟨q10, hq10, hf⟩ := k_obd hN hf
      refine g_callV (rest := []) O dX11_copy_29 (ct_X7_isMissing hZ (hp2 _ rfl) hq10) vx_RX11_284 (hp2 _ rfl) rfl rfl (by decide) (Nat.le_of_ble_eq_true rfl) (fun hp11 => ?_)
      change G Z C σ 32 [(7, .ref (za Z w9)), (6, .ref (za Z w3)), (0, .ref (za Z i0)), (1, .int p1), (2, .int p2), (3, .int p3), (4, .int p4), (5, .int p5)] [.int q10]
      refine g_if_ne 43 O dX11_copy_32 (by decide) hf (fun c12 hf => ?_) (fun c12 hf => ?_)
      · refine g_aload O dX11_copy_35 0 rfl ?_
        obtain ⟨q13, hq13, hf⟩ := k_obd hN hf
        refine g_callV (rest := []) O dX11_copy_37 (ct_X7_isMissing hZ (hp8 _ rfl) hq13) vx_RX11_284 (hp8 _ rfl) rfl rfl (by decide) (Nat.le_of_ble_eq_true rfl) (fun hp14 => ?_)
        change G Z C σ 40 [(7, .ref (za Z w9)), (6, .ref (za Z w3)), (0, .ref (za Z i0)), (1, .int p1), (2, .int p2), (3, .int p3), (4, .int p4), (5, .int p5)] [.int q13]
        refine g_if_eq 46 O dX11_copy_40 (by decide) hf (fun c15 hf => ?_) (fun c15 hf => ?_)
        · refine g_aload O dX11_copy_46 1 rfl ?_
          refine g_getI O dX11_copy_48 fx_RX11_313 (hp2 _ rfl) ?_
          refine g_aload O dX11_copy_51 0 rfl ?_
          refine g_getI O dX11_copy_53 fx_RX11_313 (hp8 _ rfl) ?_
          refine g_icmp_eq 62 O dX11_copy_56 (by decide) hf (fun c16 hf => ?_) (fun c16 hf => ?_)
          · refine g_aload O dX11_copy_62 1 rfl ?_
            refine g_iload_n O dX11_copy_64 4 rfl rfl ?_
            refine g_iload O dX11_copy_65 7 rfl ?_
            obtain ⟨q17, hq17, hf⟩ := k_obd hN hf
            refine g_callV (rest := []) O dX11_copy_67 (ct_X7_hasRun hZ (hp2 _ rfl) hq17) vx_RX11_307 (hp2 _ rfl) rfl rfl (by decide) (Nat.le_of_ble_eq_true rfl) (fun hp18 => ?_)
            change G Z C σ 70 [(7, .ref (za Z w9)), (6, .ref (za Z w3)), (0, .ref (za Z i0)), (1, .int p1), (2, .int p2), (3, .int p3), (4, .int p4), (5, .int p5)] [.int q17]
            refine g_if_eq 85 O dX11_copy_70 (by decide) hf (fun c19 hf => ?_) (fun c19 hf => ?_)
            · refine g_bipush O dX11_copy_85 (-12 : Int32) (by decide) ?_
              exact hR _ _ hf _ _ dX11_copy_87
            · refine g_aload O dX11_copy_73 0 rfl ?_
              refine g_iload O dX11_copy_75 6 rfl ?_
              refine g_iload O dX11_copy_77 7 rfl ?_
              obtain ⟨q20, hq20, hf⟩ := k_obd hN hf
              refine g_callV (rest := []) O dX11_copy_79 (ct_X7_hasRun hZ (hp8 _ rfl) hq20) vx_RX11_307 (hp8 _ rfl) rfl rfl (by decide) (Nat.le_of_ble_eq_true rfl) (fun hp21 => ?_)
              change G Z C σ 82 [(7, .ref (za Z w9)), (6, .ref (za Z w3)), (0, .ref (za Z i0)), (1, .int p1), (2, .int p2), (3, .int p3), (4, .int p4), (5, .int p5)] [.int q20]
              refine g_if_ne 88 O dX11_copy_82 (by decide) hf (fun c22 hf => ?_) (fun c22 hf => ?_)
              · refine g_bipush O dX11_copy_85 (-12 : Int32) (by decide) ?_
                exact hR _ _ hf _ _ dX11_copy_87
              · refine g_aload O dX11_copy_88 0 rfl ?_
                refine g_iload O dX11_copy_90 6 rfl ?_
                refine g_aload O dX11_copy_92 1 rfl ?_
                refine g_iload_n O dX11_copy_94 4 rfl rfl ?_
                refine g_iload O dX11_copy_95 7 rfl ?_
                obtain ⟨q23, hq23, hf⟩ := k_obd hN hf
                refine g_callV (rest := []) O dX11_copy_97 (ct_X7_take hZ (hp8 _ rfl) (hp2 _ rfl) hq23) vx_RX11_316 (hp8 _ rfl) rfl rfl (by decide) (Nat.le_of_ble_eq_true rfl) (fun hp24 => ?_)
                change G Z C q23 100 [(7, .ref (za Z w9)), (6, .ref (za Z w3)), (0, .ref (za Z i0)), (1, .int p1), (2, .int p2), (3, .int p3), (4, .int p4), (5, .int p5)] []
                refine g_iload O dX11_copy_100 7 rfl ?_
                exact hR _ _ hf _ _ dX11_copy_102
          · refine g_bipush O dX11_copy_59 (-13 : Int32) (by decide) ?_
            exact hR _ _ hf _ _ dX11_copy_61
        · refine g_bipush O dX11_copy_43 (-11 : Int32) (by decide) ?_
          exact hR _ _ hf _ _ dX11_copy_45
      · refine g_bipush O dX11_copy_43 (-11 : Int32) (by decide) ?_
        exact hR _ _ hf _ _ dX11_copy_45

set_option maxHeartbeats 4000000 in
set_option maxRecDepth 100000 in
theorem ct_X12_isIn {Z : ZT} (hZ : ZOk Z) {σ : Mem} {p0 : Int32} {p1 : Int32} {p2 : Int32}  {r : Int32} (hf : fX12_isIn σ p0 p1 p2 = some r) : Ct Z yX12_isIn cX12_isIn 3 (some .boolean) 0 0 [.int p0, .int p1, .int p2] σ (some (.int r)) (r = 0 ∨ r = 1) σ := by
  refine ct_z hZ (by decide +kernel) (Nat.le_of_ble_eq_true rfl) hf (fun C K O hN hR hf => ?_)
  have O : Ok Z C RX12 cX12_isIn 3 0 0 := O
  change G Z C σ 0 [(0, .int p0), (1, .int p1), (2, .int p2)] []
  unfold fX12_isIn at hf
  refine g_iload_n O dX12_isIn_0 0 rfl rfl ?_
  refine g_iload_n O dX12_isIn_1 1 rfl rfl ?_
  refine g_icmp_lt 14 O dX12_isIn_2 (by decide) hf (fun c1 hf => ?_) (fun c1 hf => ?_)
  · refine g_iconst O dX12_isIn_14 (0 : Int32) (by decide) ?_
    exact hR _ hf (Or.inl rfl) _ _ dX12_isIn_15
  · refine g_iload_n O dX12_isIn_5 0 rfl rfl ?_
    refine g_iload_n O dX12_isIn_6 2 rfl rfl ?_
    refine g_icmp_gt 14 O dX12_isIn_7 (by decide) hf (fun c2 hf => ?_) (fun c2 hf => ?_)
    · refine g_iconst O dX12_isIn_14 (0 : Int32) (by decide) ?_
      exact hR _ hf (Or.inl rfl) _ _ dX12_isIn_15
    · refine g_iconst O dX12_isIn_10 (1 : Int32) (by decide) ?_
      refine g_goto 15 O dX12_isIn_11 (by decide) ?_
      exact hR _ hf (Or.inr rfl) _ _ dX12_isIn_15

set_option maxHeartbeats 4000000 in
set_option maxRecDepth 100000 in
theorem ct_X12_isWord {Z : ZT} (hZ : ZOk Z) {σ : Mem} {i0 : Nat} {p1 : Int32} (h0 : kn i0 = 12) {r : Int32} (hf : fX12_isWord σ i0 p1 = some r) : Ct Z yX12_isWord cX12_isWord 2 (some .boolean) 1 22 [.ref (za Z i0), .int p1] σ (some (.int r)) (r = 0 ∨ r = 1) σ := by
  refine ct_z hZ (by decide +kernel) (Nat.le_of_ble_eq_true rfl) hf (fun C K O hN hR hf => ?_)
  have O : Ok Z C RX12 cX12_isWord 2 1 22 := O
  change G Z C σ 0 [(0, .ref (za Z i0)), (1, .int p1)] []
  unfold fX12_isWord at hf
  refine g_iload_n O dX12_isWord_0 1 rfl rfl ?_
  refine g_iconst O dX12_isWord_1 (0 : Int32) (by decide) ?_
  refine g_aload_n O dX12_isWord_2 0 rfl rfl ?_
  refine g_getR O dX12_isWord_3 fx_RX12_9 h0 ?_
  refine g_iconst O dX12_isWord_6 (0 : Int32) (by decide) ?_
  refine g_iald O hN dX12_isWord_7 (kf_12_0 h0) hf (fun hf => ?_)
  refine g_iconst O dX12_isWord_8 (1 : Int32) (by decide) ?_
  refine g_isub O dX12_isWord_9 ?_
  obtain ⟨q1, hq1, hf⟩ := k_obd hN hf
  refine g_callS (rest := []) O dX12_isWord_10 (ct_X12_isIn hZ  hq1) sx_RX12_64 rfl rfl (by decide) (Nat.le_of_ble_eq_true rfl) (fun hp2 => ?_)
  change G Z C σ 13 [(0, .ref (za Z i0)), (1, .int p1)] [.int q1]
  exact hR _ hf hp2 _ _ dX12_isWord_13

set_option maxHeartbeats 4000000 in
set_option maxRecDepth 100000 in
theorem ct_X12_isVowel {Z : ZT} (hZ : ZOk Z) {σ : Mem} {p0 : Int32}  {r : Int32} (hf : fX12_isVowel σ p0 = some r) : Ct Z yX12_isVowel cX12_isVowel 1 (some .boolean) 0 0 [.int p0] σ (some (.int r)) (r = 0 ∨ r = 1) σ := by
  refine ct_z hZ (by decide +kernel) (Nat.le_of_ble_eq_true rfl) hf (fun C K O hN hR hf => ?_)
  have O : Ok Z C RX12 cX12_isVowel 1 0 0 := O
  change G Z C σ 0 [(0, .int p0)] []
  unfold fX12_isVowel at hf
  refine g_iload_n O dX12_isVowel_0 0 rfl rfl ?_
  refine g_bipush O dX12_isVowel_1 (97 : Int32) (by decide) ?_
  refine g_icmp_eq 30 O dX12_isVowel_3 (by decide) hf (fun c1 hf => ?_) (fun c1 hf => ?_)
  · refine g_iconst O dX12_isVowel_30 (1 : Int32) (by decide) ?_
    refine g_goto 35 O dX12_isVowel_31 (by decide) ?_
    exact hR _ hf (Or.inr rfl) _ _ dX12_isVowel_35
  · refine g_iload_n O dX12_isVowel_6 0 rfl rfl ?_
    refine g_bipush O dX12_isVowel_7 (101 : Int32) (by decide) ?_
    refine g_icmp_eq 30 O dX12_isVowel_9 (by decide) hf (fun c2 hf => ?_) (fun c2 hf => ?_)
    · refine g_iconst O dX12_isVowel_30 (1 : Int32) (by decide) ?_
      refine g_goto 35 O dX12_isVowel_31 (by decide) ?_
      exact hR _ hf (Or.inr rfl) _ _ dX12_isVowel_35
    · refine g_iload_n O dX12_isVowel_12 0 rfl rfl ?_
      refine g_bipush O dX12_isVowel_13 (105 : Int32) (by decide) ?_
      refine g_icmp_eq 30 O dX12_isVowel_15 (by decide) hf (fun c3 hf => ?_) (fun c3 hf => ?_)
      · refine g_iconst O dX12_isVowel_30 (1 : Int32) (by decide) ?_
        refine g_goto 35 O dX12_isVowel_31 (by decide) ?_
        exact hR _ hf (Or.inr rfl) _ _ dX12_isVowel_35
      · refine g_iload_n O dX12_isVowel_18 0 rfl rfl ?_
        refine g_bipush O dX12_isVowel_19 (111 : Int32) (by decide) ?_
        refine g_icmp_eq 30 O dX12_isVowel_21 (by decide) hf (fun c4 hf => ?_) (fun c4 hf => ?_)
        · refine g_iconst O dX12_isVowel_30 (1 : Int32) (by decide) ?_
          refine g_goto 35 O dX12_isVowel_31 (by decide) ?_
          exact hR _ hf (Or.inr rfl) _ _ dX12_isVowel_35
        · refine g_iload_n O dX12_isVowel_24 0 rfl rfl ?_
          refine g_bipush O dX12_isVowel_25 (117 : Int32) (by decide) ?_
          refine g_icmp_ne 34 O dX12_isVowel_27 (by decide) hf (fun c5 hf => ?_) (fun c5 hf => ?_)
          · refine g_iconst O dX12_isVowel_30 (1 : Int32) (by decide) ?_
            refine g_goto 35 O dX12_isVowel_31 (by decide) ?_
            exact hR _ hf (Or.inr rfl) _ _ dX12_isVowel_35
          · refine g_iconst O dX12_isVowel_34 (0 : Int32) (by decide) ?_
            exact hR _ hf (Or.inl rfl) _ _ dX12_isVowel_35

set_option maxHeartbeats 4000000 in
set_option maxRecDepth 100000 in
theorem ct_X12_kind {Z : ZT} (hZ : ZOk Z) {σ : Mem} {i0 : Nat} {p1 : Int32} (h0 : kn i0 = 12) {r : Int32} (hf : fX12_kind σ i0 p1 = some r) : Ct Z yX12_kind cX12_kind 2 (some .int) 0 0 [.ref (za Z i0), .int p1] σ (some (.int r)) True σ := by
  refine ct_i hZ (by decide +kernel) (Nat.le_of_ble_eq_true rfl) hf (fun C K O hN hR hf => ?_)
  have O : Ok Z C RX12 cX12_kind 2 0 0 := O
  change G Z C σ 0 [(0, .ref (za Z i0)), (1, .int p1)] []
  unfold fX12_kind at hf
  refine g_aload_n O dX12_kind_0 0 rfl rfl ?_
  refine g_getR O dX12_kind_1 fx_RX12_9 h0 ?_
  refine g_bipush O dX12_kind_4 (14 : Int32) (by decide) ?_
  refine g_bipush O dX12_kind_6 (10 : Int32) (by decide) ?_
  refine g_iload_n O dX12_kind_8 1 rfl rfl ?_
  refine g_imul O dX12_kind_9 ?_
  refine g_iadd O dX12_kind_10 ?_
  refine g_iald O hN dX12_kind_11 (kf_12_0 h0) hf (fun hf => ?_)
  exact hR _ hf _ _ dX12_kind_12

set_option maxHeartbeats 4000000 in
set_option maxRecDepth 100000 in
theorem ct_X12_gender {Z : ZT} (hZ : ZOk Z) {σ : Mem} {i0 : Nat} {p1 : Int32} (h0 : kn i0 = 12) {r : Int32} (hf : fX12_gender σ i0 p1 = some r) : Ct Z yX12_gender cX12_gender 2 (some .int) 0 0 [.ref (za Z i0), .int p1] σ (some (.int r)) True σ := by
  refine ct_i hZ (by decide +kernel) (Nat.le_of_ble_eq_true rfl) hf (fun C K O hN hR hf => ?_)
  have O : Ok Z C RX12 cX12_gender 2 0 0 := O
  change G Z C σ 0 [(0, .ref (za Z i0)), (1, .int p1)] []
  unfold fX12_gender at hf
  refine g_aload_n O dX12_gender_0 0 rfl rfl ?_
  refine g_getR O dX12_gender_1 fx_RX12_9 h0 ?_
  refine g_bipush O dX12_gender_4 (14 : Int32) (by decide) ?_
  refine g_bipush O dX12_gender_6 (10 : Int32) (by decide) ?_
  refine g_iload_n O dX12_gender_8 1 rfl rfl ?_
  refine g_imul O dX12_gender_9 ?_
  refine g_iadd O dX12_gender_10 ?_
  refine g_iconst O dX12_gender_11 (2 : Int32) (by decide) ?_
  refine g_iadd O dX12_gender_12 ?_
  refine g_iald O hN dX12_gender_13 (kf_12_0 h0) hf (fun hf => ?_)
  exact hR _ hf _ _ dX12_gender_14

set_option maxHeartbeats 4000000 in
set_option maxRecDepth 100000 in
theorem ct_X12_above {Z : ZT} (hZ : ZOk Z) {σ : Mem} {p0 : Int32}  {r : Int32} (hf : fX12_above σ p0 = some r) : Ct Z yX12_above cX12_above 1 (some .int) 0 0 [.int p0] σ (some (.int r)) True σ := by
  refine ct_i hZ (by decide +kernel) (Nat.le_of_ble_eq_true rfl) hf (fun C K O hN hR hf => ?_)
  have O : Ok Z C RX12 cX12_above 1 0 0 := O
  change G Z C σ 0 [(0, .int p0)] []
  unfold fX12_above at hf
  refine g_iload_n O dX12_above_0 0 rfl rfl ?_
  refine g_if_ne 8 O dX12_above_1 (by decide) hf (fun c1 hf => ?_) (fun c1 hf => ?_)
  · refine g_iconst O dX12_above_4 (-1 : Int32) (by decide) ?_
    refine g_goto 27 O dX12_above_5 (by decide) ?_
    exact hR _ hf _ _ dX12_above_27
  · refine g_iload_n O dX12_above_8 0 rfl rfl ?_
    refine g_iconst O dX12_above_9 (3 : Int32) (by decide) ?_
    refine g_icmp_ge 17 O dX12_above_10 (by decide) hf (fun c2 hf => ?_) (fun c2 hf => ?_)
    · refine g_iload_n O dX12_above_17 0 rfl rfl ?_
      refine g_iconst O dX12_above_18 (5 : Int32) (by decide) ?_
      refine g_icmp_ge 26 O dX12_above_19 (by decide) hf (fun c3 hf => ?_) (fun c3 hf => ?_)
      · refine g_iconst O dX12_above_26 (2 : Int32) (by decide) ?_
        exact hR _ hf _ _ dX12_above_27
      · refine g_iconst O dX12_above_22 (1 : Int32) (by decide) ?_
        refine g_goto 27 O dX12_above_23 (by decide) ?_
        exact hR _ hf _ _ dX12_above_27
    · refine g_iconst O dX12_above_13 (0 : Int32) (by decide) ?_
      refine g_goto 27 O dX12_above_14 (by decide) ?_
      exact hR _ hf _ _ dX12_above_27

set_option maxHeartbeats 4000000 in
set_option maxRecDepth 100000 in
theorem ct_X12_isUnder {Z : ZT} (hZ : ZOk Z) {σ : Mem} {p0 : Int32} {p1 : Int32}  {r : Int32} (hf : fX12_isUnder σ p0 p1 = some r) : Ct Z yX12_isUnder cX12_isUnder 3 (some .boolean) 1 20 [.int p0, .int p1] σ (some (.int r)) (r = 0 ∨ r = 1) σ := by
  refine ct_z hZ (by decide +kernel) (Nat.le_of_ble_eq_true rfl) hf (fun C K O hN hR hf => ?_)
  have O : Ok Z C RX12 cX12_isUnder 3 1 20 := O
  change G Z C σ 0 [(0, .int p0), (1, .int p1)] []
  unfold fX12_isUnder at hf
  refine g_iload_n O dX12_isUnder_0 0 rfl rfl ?_
  refine g_istore_nP O dX12_isUnder_1 rfl (by decide) [(2, .int p0), (0, .int p0), (1, .int p1)] rfl ?_
  refine g_sub [0, 2] rfl ?_
  refine g_lp hN (fun (a1 : Int32) => G Z C σ 2 [(2, .int a1), (1, .int p1)] []) hf (fun a1 _ hN1 hI1 hX1 hf => ?_)
  unfold sX12_isUnder_2 at hf
  refine g_iload_n O dX12_isUnder_2 0 rfl rfl ?_
  refine g_jn (fun (y2 : Unit) => G Z C σ 19 [(2, .int a1), (1, .int p1)] []) hf (fun y2 hf => ?_) (fun k2 hk2 hf => ?_)
  · have hf := hX1 _ hf
    refine g_iload_n O dX12_isUnder_19 0 rfl rfl ?_
    refine g_iload_n O dX12_isUnder_20 1 rfl rfl ?_
    refine g_icmp_ne 28 O dX12_isUnder_21 (by decide) hf (fun c3 hf => ?_) (fun c3 hf => ?_)
    · refine g_iconst O dX12_isUnder_24 (1 : Int32) (by decide) ?_
      refine g_goto 29 O dX12_isUnder_25 (by decide) ?_
      exact hR _ hf (Or.inr rfl) _ _ dX12_isUnder_29
    · refine g_iconst O dX12_isUnder_28 (0 : Int32) (by decide) ?_
      exact hR _ hf (Or.inl rfl) _ _ dX12_isUnder_29
  · skip
    refine g_if_lt 19 O dX12_isUnder_3 (by decide) hf (fun c4 hf => ?_) (fun c4 hf => ?_)
    · exact hk2 _ hf
    · refine g_iload_n O dX12_isUnder_6 0 rfl rfl ?_
      refine g_iload_n O dX12_isUnder_7 1 rfl rfl ?_
      refine g_icmp_eq 19 O dX12_isUnder_8 (by decide) hf (fun c5 hf => ?_) (fun c5 hf => ?_)
      · exact hk2 _ hf
      · refine g_iload_n O dX12_isUnder_11 0 rfl rfl ?_
        obtain ⟨q6, hq6, hf⟩ := k_obd hN1 hf
        refine g_callS (rest := []) O dX12_isUnder_12 (ct_X12_above hZ  hq6) sx_RX12_68 rfl rfl (by decide) (Nat.le_of_ble_eq_true rfl) (fun hp7 => ?_)
        change G Z C σ 15 [(2, .int a1), (1, .int p1)] [.int q6]
        refine g_istore_nP O dX12_isUnder_15 rfl (by decide) [(2, .int q6), (1, .int p1)] rfl ?_
        refine g_goto 2 O dX12_isUnder_16 (by decide) ?_
        exact hI1 _ hf

set_option maxHeartbeats 4000000 in
set_option maxRecDepth 100000 in
theorem ct_X12_feed {Z : ZT} (hZ : ZOk Z) {σ : Mem} {i0 : Nat} {p1 : Int32} {p2 : Int32} {p3 : Int32} {p4 : Int32} {p5 : Int32} {p6 : Int32} (h0 : kn i0 = 12) {r : (Int32 × Mem)} (hf : fX12_feed σ i0 p1 p2 p3 p4 p5 p6 = some r) : Ct Z yX12_feed cX12_feed 8 (some .int) 1 22 [.ref (za Z i0), .int p1, .int p2, .int p3, .int p4, .int p5, .int p6] σ (some (.int r.1)) True r.2 := by
  refine ct_im hZ (by decide +kernel) (Nat.le_of_ble_eq_true rfl) hf (fun C K O hN hR hf => ?_)
  have O : Ok Z C RX12 cX12_feed 8 1 22 := O
  change G Z C σ 0 [(0, .ref (za Z i0)), (1, .int p1), (2, .int p2), (3, .int p3), (4, .int p4), (5, .int p5), (6, .int p6)] []
  unfold fX12_feed at hf
  refine g_iload_n O dX12_feed_0 1 rfl rfl ?_
  refine g_iconst O dX12_feed_1 (1 : Int32) (by decide) ?_
  refine g_iconst O dX12_feed_2 (5 : Int32) (by decide) ?_
  obtain ⟨q1, hq1, hf⟩ := k_obd hN hf
  refine g_callS (rest := []) O dX12_feed_3 (ct_X12_isIn hZ  hq1) sx_RX12_64 rfl rfl (by decide) (Nat.le_of_ble_eq_true rfl) (fun hp2 => ?_)
  change G Z C σ 6 [(0, .ref (za Z i0)), (1, .int p1), (2, .int p2), (3, .int p3), (4, .int p4), (5, .int p5), (6, .int p6)] [.int q1]
  refine g_if_eq 67 O dX12_feed_6 (by decide) hf (fun c3 hf => ?_) (fun c3 hf => ?_)
  · refine g_bipush O dX12_feed_67 (-2 : Int32) (by decide) ?_
    exact hR _ _ hf _ _ dX12_feed_69
  · refine g_iload_n O dX12_feed_9 2 rfl rfl ?_
    refine g_iconst O dX12_feed_10 (0 : Int32) (by decide) ?_
    refine g_sipush O dX12_feed_11 (255 : Int32) (by decide) ?_
    obtain ⟨q4, hq4, hf⟩ := k_obd hN hf
    refine g_callS (rest := []) O dX12_feed_14 (ct_X12_isIn hZ  hq4) sx_RX12_64 rfl rfl (by decide) (Nat.le_of_ble_eq_true rfl) (fun hp5 => ?_)
    change G Z C σ 17 [(0, .ref (za Z i0)), (1, .int p1), (2, .int p2), (3, .int p3), (4, .int p4), (5, .int p5), (6, .int p6)] [.int q4]
    refine g_if_eq 67 O dX12_feed_17 (by decide) hf (fun c6 hf => ?_) (fun c6 hf => ?_)
    · refine g_bipush O dX12_feed_67 (-2 : Int32) (by decide) ?_
      exact hR _ _ hf _ _ dX12_feed_69
    · refine g_iload_n O dX12_feed_20 3 rfl rfl ?_
      refine g_iconst O dX12_feed_21 (0 : Int32) (by decide) ?_
      refine g_sipush O dX12_feed_22 (255 : Int32) (by decide) ?_
      obtain ⟨q7, hq7, hf⟩ := k_obd hN hf
      refine g_callS (rest := []) O dX12_feed_25 (ct_X12_isIn hZ  hq7) sx_RX12_64 rfl rfl (by decide) (Nat.le_of_ble_eq_true rfl) (fun hp8 => ?_)
      change G Z C σ 28 [(0, .ref (za Z i0)), (1, .int p1), (2, .int p2), (3, .int p3), (4, .int p4), (5, .int p5), (6, .int p6)] [.int q7]
      refine g_if_eq 67 O dX12_feed_28 (by decide) hf (fun c9 hf => ?_) (fun c9 hf => ?_)
      · refine g_bipush O dX12_feed_67 (-2 : Int32) (by decide) ?_
        exact hR _ _ hf _ _ dX12_feed_69
      · refine g_iload O dX12_feed_31 4 rfl ?_
        refine g_iconst O dX12_feed_33 (0 : Int32) (by decide) ?_
        refine g_sipush O dX12_feed_34 (255 : Int32) (by decide) ?_
        obtain ⟨q10, hq10, hf⟩ := k_obd hN hf
        refine g_callS (rest := []) O dX12_feed_37 (ct_X12_isIn hZ  hq10) sx_RX12_64 rfl rfl (by decide) (Nat.le_of_ble_eq_true rfl) (fun hp11 => ?_)
        change G Z C σ 40 [(0, .ref (za Z i0)), (1, .int p1), (2, .int p2), (3, .int p3), (4, .int p4), (5, .int p5), (6, .int p6)] [.int q10]
        refine g_if_eq 67 O dX12_feed_40 (by decide) hf (fun c12 hf => ?_) (fun c12 hf => ?_)
        · refine g_bipush O dX12_feed_67 (-2 : Int32) (by decide) ?_
          exact hR _ _ hf _ _ dX12_feed_69
        · refine g_iload O dX12_feed_43 5 rfl ?_
          refine g_iconst O dX12_feed_45 (0 : Int32) (by decide) ?_
          refine g_sipush O dX12_feed_46 (255 : Int32) (by decide) ?_
          obtain ⟨q13, hq13, hf⟩ := k_obd hN hf
          refine g_callS (rest := []) O dX12_feed_49 (ct_X12_isIn hZ  hq13) sx_RX12_64 rfl rfl (by decide) (Nat.le_of_ble_eq_true rfl) (fun hp14 => ?_)
          change G Z C σ 52 [(0, .ref (za Z i0)), (1, .int p1), (2, .int p2), (3, .int p3), (4, .int p4), (5, .int p5), (6, .int p6)] [.int q13]
          refine g_if_eq 67 O dX12_feed_52 (by decide) hf (fun c15 hf => ?_) (fun c15 hf => ?_)
          · refine g_bipush O dX12_feed_67 (-2 : Int32) (by decide) ?_
            exact hR _ _ hf _ _ dX12_feed_69
          · refine g_iload O dX12_feed_55 6 rfl ?_
            refine g_iconst O dX12_feed_57 (0 : Int32) (by decide) ?_
            refine g_sipush O dX12_feed_58 (255 : Int32) (by decide) ?_
            obtain ⟨q16, hq16, hf⟩ := k_obd hN hf
            refine g_callS (rest := []) O dX12_feed_61 (ct_X12_isIn hZ  hq16) sx_RX12_64 rfl rfl (by decide) (Nat.le_of_ble_eq_true rfl) (fun hp17 => ?_)
            change G Z C σ 64 [(0, .ref (za Z i0)), (1, .int p1), (2, .int p2), (3, .int p3), (4, .int p4), (5, .int p5), (6, .int p6)] [.int q16]
            refine g_if_ne 70 O dX12_feed_64 (by decide) hf (fun c18 hf => ?_) (fun c18 hf => ?_)
            · refine g_bipush O dX12_feed_67 (-2 : Int32) (by decide) ?_
              exact hR _ _ hf _ _ dX12_feed_69
            · refine g_aload_n O dX12_feed_70 0 rfl rfl ?_
              refine g_getI O dX12_feed_71 fx_RX12_72 h0 ?_
              refine g_iload_n O dX12_feed_74 1 rfl rfl ?_
              refine g_iadd O dX12_feed_75 ?_
              refine g_bipush O dX12_feed_76 (50 : Int32) (by decide) ?_
              refine g_icmp_le 84 O dX12_feed_78 (by decide) hf (fun c19 hf => ?_) (fun c19 hf => ?_)
              · refine g_iconst O dX12_feed_84 (0 : Int32) (by decide) ?_
                refine g_istoreP O dX12_feed_85 (by decide) [(7, .int (0 : Int32)), (0, .ref (za Z i0)), (1, .int p1), (2, .int p2), (3, .int p3), (4, .int p4), (5, .int p5), (6, .int p6)] rfl ?_
                refine g_lp hN (fun (a20 : Int32 × Mem) => G Z C a20.2 87 [(7, .int a20.1), (0, .ref (za Z i0)), (1, .int p1), (2, .int p2), (3, .int p3), (4, .int p4), (5, .int p5), (6, .int p6)] []) hf (fun a20 _ hN20 hI20 hX20 hf => ?_)
                unfold sX12_feed_87 at hf
                refine g_iload O dX12_feed_87 0 rfl ?_
                refine g_iload_n O dX12_feed_89 2 rfl rfl ?_
                refine g_icmp_ge 154 O dX12_feed_90 (by decide) hf (fun c21 hf => ?_) (fun c21 hf => ?_)
                · have hf := hX20 _ hf
                  refine g_aload_n O dX12_feed_154 1 rfl rfl ?_
                  refine g_dup O dX12_feed_155 rfl ?_
                  refine g_getI O dX12_feed_156 fx_RX12_72 h0 ?_
                  refine g_iload_n O dX12_feed_159 2 rfl rfl ?_
                  refine g_iadd O dX12_feed_160 ?_
                  refine g_putI O dX12_feed_161 fp_RX12_72 h0 hf (fun m22 hf => ?_)
                  refine g_aload_n O dX12_feed_164 1 rfl rfl ?_
                  refine g_getI O dX12_feed_165 fx_RX12_72 h0 ?_
                  exact hR _ _ hf _ _ dX12_feed_168
                · refine g_aload_n O dX12_feed_93 1 rfl rfl ?_
                  refine g_getR O dX12_feed_94 fx_RX12_16 h0 ?_
                  refine g_aload_n O dX12_feed_97 1 rfl rfl ?_
                  refine g_getI O dX12_feed_98 fx_RX12_72 h0 ?_
                  refine g_iload O dX12_feed_101 0 rfl ?_
                  refine g_iadd O dX12_feed_103 ?_
                  refine g_iload O dX12_feed_104 0 rfl ?_
                  refine g_jn (fun (y23 : Int32) => G Z C a20.2 147 [(7, .int a20.1), (0, .ref (za Z i0)), (1, .int p1), (2, .int p2), (3, .int p3), (4, .int p4), (5, .int p5), (6, .int p6)] [.int y23, .int ((a20.2 i0 4) + a20.1), .ref (za Z (i0 + 3))]) hf (fun y23 hf => ?_) (fun k23 hk23 hf => ?_)
                  · refine g_iast O hN20 dX12_feed_147 (kf_12_3 h0) hf (fun m24 hf => ?_)
                    refine g_iinc O dX12_feed_148 0 rfl (by decide) (1) (by decide) (fun y => [(7, .int y), (0, .ref (za Z i0)), (1, .int p1), (2, .int p2), (3, .int p3), (4, .int p4), (5, .int p5), (6, .int p6)]) (fun _ => rfl) hf (fun x25 hf => ?_)
                    refine g_goto 87 O dX12_feed_151 (by decide) ?_
                    exact hI20 _ hf
                  · skip
                    refine g_if_ne 113 O dX12_feed_106 (by decide) hf (fun c26 hf => ?_) (fun c26 hf => ?_)
                    · refine g_iload_n O dX12_feed_109 3 rfl rfl ?_
                      refine g_goto 147 O dX12_feed_110 (by decide) ?_
                      exact hk23 _ hf
                    · refine g_iload O dX12_feed_113 0 rfl ?_
                      refine g_iconst O dX12_feed_115 (1 : Int32) (by decide) ?_
                      refine g_icmp_ne 123 O dX12_feed_116 (by decide) hf (fun c27 hf => ?_) (fun c27 hf => ?_)
                      · refine g_iload_n O dX12_feed_119 4 rfl rfl ?_
                        refine g_goto 147 O dX12_feed_120 (by decide) ?_
                        exact hk23 _ hf
                      · refine g_iload O dX12_feed_123 0 rfl ?_
                        refine g_iconst O dX12_feed_125 (2 : Int32) (by decide) ?_
                        refine g_icmp_ne 134 O dX12_feed_126 (by decide) hf (fun c28 hf => ?_) (fun c28 hf => ?_)
                        · refine g_iload O dX12_feed_129 5 rfl ?_
                          refine g_goto 147 O dX12_feed_131 (by decide) ?_
                          exact hk23 _ hf
                        · refine g_iload O dX12_feed_134 0 rfl ?_
                          refine g_iconst O dX12_feed_136 (3 : Int32) (by decide) ?_
                          refine g_icmp_ne 145 O dX12_feed_137 (by decide) hf (fun c29 hf => ?_) (fun c29 hf => ?_)
                          · refine g_iload O dX12_feed_140 6 rfl ?_
                            refine g_goto 147 O dX12_feed_142 (by decide) ?_
                            exact hk23 _ hf
                          · refine g_iload O dX12_feed_145 7 rfl ?_
                            exact hk23 _ hf
              · refine g_bipush O dX12_feed_81 (-4 : Int32) (by decide) ?_
                exact hR _ _ hf _ _ dX12_feed_83

