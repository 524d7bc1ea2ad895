set_option maxHeartbeats 4000000 in
set_option maxRecDepth 100000 in
theorem ct_X11_count {Z : ZT} (hZ : ZOk Z) {σ : Mem} {i0 : Nat} {p1 : Int32} (h0 : kn i0 = 11) {r : (Int32 × Mem)} (hf : fX11_count σ i0 p1 = some r) : Ct Z yX11_count cX11_count 2 (some .int) 5 136 [.ref (za Z i0), .int p1] σ (some (.int r.1)) True r.2 := by
  refine ct_im hZ (by decide +kernel) (Nat.le_of_ble_eq_true rfl) hf (fun C K O hN hR hf => ?_)
  have O : Ok Z C RX11 cX11_count 2 5 136 := O
  change G Z C σ 0 [(0, .ref (za Z i0)), (1, .int p1)] []
  unfold fX11_count at hf
  refine g_iload_n O dX11_count_0 1 rfl rfl ?_
  refine k_if hf (fun c1 hf => ?_) (fun c1 hf => ?_)
  · refine g_tabIn (off := 35) 36 O dX11_count_1 c1 (by decide) (by decide) (by decide) (by decide) ?_
    refine g_aload_n O dX11_count_36 0 rfl rfl ?_
    refine g_getR O dX11_count_37 fx_RX11_21 h0 ?_
    refine g_getI O dX11_count_40 fx_RX11_303 (kf_11_1 h0) ?_
    exact hR _ _ hf _ _ dX11_count_43
  refine k_if hf (fun c2 hf => ?_) (fun c2 hf => ?_)
  · refine g_tabIn (off := 43) 44 O dX11_count_1 c2 (by decide) (by decide) (by decide) (by decide) ?_
    refine g_aload_n O dX11_count_44 0 rfl rfl ?_
    refine g_getR O dX11_count_45 fx_RX11_21 h0 ?_
    refine g_getI O dX11_count_48 fx_RX11_251 (kf_11_1 h0) ?_
    exact hR _ _ hf _ _ dX11_count_51
  refine k_if hf (fun c3 hf => ?_) (fun c3 hf => ?_)
  · refine g_tabIn (off := 51) 52 O dX11_count_1 c3 (by decide) (by decide) (by decide) (by decide) ?_
    refine g_aload_n O dX11_count_52 0 rfl rfl ?_
    refine g_getR O dX11_count_53 fx_RX11_21 h0 ?_
    refine g_getR O dX11_count_56 fx_RX11_222 (kf_11_1 h0) ?_
    obtain ⟨q4, hq4, hf⟩ := k_obd hN hf
    refine g_callV (rest := []) O dX11_count_59 (ct_X5_words hZ (kf_0_6 (kf_11_1 h0)) hq4) vx_RX11_225 (kf_0_6 (kf_11_1 h0)) rfl rfl (by decide) (Nat.le_of_ble_eq_true rfl) (fun hp5 => ?_)
    change G Z C σ 62 [(0, .ref (za Z i0)), (1, .int p1)] [.int q4]
    exact hR _ _ hf _ _ dX11_count_62
  refine k_if hf (fun c6 hf => ?_) (fun c6 hf => ?_)
  · refine g_tabIn (off := 62) 63 O dX11_count_1 c6 (by decide) (by decide) (by decide) (by decide) ?_
    refine g_aload_n O dX11_count_63 0 rfl rfl ?_
    obtain ⟨q7, hq7, hf⟩ := k_obd hN hf
    refine g_callV (rest := []) O dX11_count_64 (ct_X11_sayDesk hZ h0 hq7) vx_RX11_205 h0 rfl rfl (by decide) (Nat.le_of_ble_eq_true rfl) (fun hp8 => ?_)
    change G Z C q7.2 67 [(0, .ref (za Z i0)), (1, .int p1)] [.int q7.1]
    refine g_pop O dX11_count_67 rfl ?_
    refine g_aload_n O dX11_count_68 0 rfl rfl ?_
    refine g_getR O dX11_count_69 fx_RX11_41 h0 ?_
    refine g_getR O dX11_count_72 fx_RX11_208 (kf_11_6 h0) ?_
    refine g_getI O dX11_count_75 fx_RX11_77 (kf_8_1 (kf_11_6 h0)) ?_
    exact hR _ _ hf _ _ dX11_count_78
  refine k_if hf (fun c9 hf => ?_) (fun c9 hf => ?_)
  · refine g_tabIn (off := 78) 79 O dX11_count_1 c9 (by decide) (by decide) (by decide) (by decide) ?_
    refine g_aload_n O dX11_count_79 0 rfl rfl ?_
    refine g_getR O dX11_count_80 fx_RX11_14 h0 ?_
    refine g_getI O dX11_count_83 fx_RX11_77 (kf_11_0 h0) ?_
    exact hR _ _ hf _ _ dX11_count_86
  refine g_tabOut 87 O dX11_count_1 (by have h0 := ti_ne c1 (n := 0) (by decide); have h1 := ti_ne c2 (n := 1) (by decide); have h2 := ti_ne c3 (n := 2) (by decide); have h3 := ti_ne c6 (n := 3) (by decide); have h4 := ti_ne c9 (n := 4) (by decide); omega) (by decide) ?_
  refine g_bipush O dX11_count_87 (-2 : Int32) (by decide) ?_
  exact hR _ _ hf _ _ dX11_count_89

set_option maxHeartbeats 4000000 in
set_option maxRecDepth 100000 in
theorem ct_X11_sheet {Z : ZT} (hZ : ZOk Z) {σ : Mem} {i0 : Nat} {p1 : Int32} {p2 : Int32} {p3 : Int32} (h0 : kn i0 = 11) {r : (Int32 × Mem)} (hf : fX11_sheet σ i0 p1 p2 p3 = some r) : Ct Z yX11_sheet cX11_sheet 5 (some .int) 2 45 [.ref (za Z i0), .int p1, .int p2, .int p3] σ (some (.int r.1)) True r.2 := by
  refine ct_im hZ (by decide +kernel) (Nat.le_of_ble_eq_true rfl) hf (fun C K O hN hR hf => ?_)
  have O : Ok Z C RX11 cX11_sheet 5 2 45 := O
  change G Z C σ 0 [(0, .ref (za Z i0)), (1, .int p1), (2, .int p2), (3, .int p3)] []
  unfold fX11_sheet at hf
  refine g_aload_n O dX11_sheet_0 0 rfl rfl ?_
  refine g_iload_n O dX11_sheet_1 1 rfl rfl ?_
  obtain ⟨q1, hq1, hf⟩ := k_obd hN hf
  refine g_callV (rest := []) O dX11_sheet_2 (ct_X11_sheetAt hZ h0 hq1) vx_RX11_280 h0 rfl rfl (by decide) (Nat.le_of_ble_eq_true rfl) (fun hp2 => ?_)
  refine k_ocs hf (fun he hf1 => ?_) (fun w3 he hf1 => ?_)
  · subst he
    have hf := hf1
    change G Z C σ 5 [(0, .ref (za Z i0)), (1, .int p1), (2, .int p2), (3, .int p3)] [.null]
    refine g_astoreN O dX11_sheet_5 (by decide) [(4, .null), (0, .ref (za Z i0)), (1, .int p1), (2, .int p2), (3, .int p3)] rfl ?_
    refine g_aloadN O dX11_sheet_7 0 rfl ?_
    refine g_ifnullN 22 O dX11_sheet_9 (by decide) ?_
    refine g_bipush O dX11_sheet_22 (-2 : Int32) (by decide) ?_
    exact hR _ _ hf _ _ dX11_sheet_24
  · subst he
    have hf := hf1
    change G Z C σ 5 [(0, .ref (za Z i0)), (1, .int p1), (2, .int p2), (3, .int p3)] [.ref (za Z w3)]
    refine g_astoreP O dX11_sheet_5 (by decide) [(4, .ref (za Z w3)), (0, .ref (za Z i0)), (1, .int p1), (2, .int p2), (3, .int p3)] rfl ?_
    refine g_aload O dX11_sheet_7 0 rfl ?_
    refine g_ifnullR O dX11_sheet_9 ?_
    refine g_iload_n O dX11_sheet_12 3 rfl rfl ?_
    refine g_iconst O dX11_sheet_13 (-1 : Int32) (by decide) ?_
    refine g_icmp_lt 22 O dX11_sheet_14 (by decide) hf (fun c4 hf => ?_) (fun c4 hf => ?_)
    · refine g_bipush O dX11_sheet_22 (-2 : Int32) (by decide) ?_
      exact hR _ _ hf _ _ dX11_sheet_24
    · refine g_iload_n O dX11_sheet_17 3 rfl rfl ?_
      refine g_iconst O dX11_sheet_18 (1 : Int32) (by decide) ?_
      refine g_icmp_le 25 O dX11_sheet_19 (by decide) hf (fun c5 hf => ?_) (fun c5 hf => ?_)
      · refine g_iload_n O dX11_sheet_25 3 rfl rfl ?_
        refine g_iconst O dX11_sheet_26 (-1 : Int32) (by decide) ?_
        refine g_icmp_ne 39 O dX11_sheet_27 (by decide) hf (fun c6 hf => ?_) (fun c6 hf => ?_)
        · refine g_aload O dX11_sheet_30 0 rfl ?_
          refine g_iconst O dX11_sheet_32 (-1 : Int32) (by decide) ?_
          refine g_iconst O dX11_sheet_33 (0 : Int32) (by decide) ?_
          obtain ⟨q7, hq7, hf⟩ := k_obd hN hf
          refine g_callV (rest := []) O dX11_sheet_34 (ct_X7_begin hZ (hp2 _ rfl) hq7) vx_RX11_306 (hp2 _ rfl) rfl rfl (by decide) (Nat.le_of_ble_eq_true rfl) (fun hp8 => ?_)
          change G Z C q7 37 [(4, .ref (za Z w3)), (0, .ref (za Z i0)), (1, .int p1), (2, .int p2), (3, .int p3)] []
          refine g_iconst O dX11_sheet_37 (1 : Int32) (by decide) ?_
          exact hR _ _ hf _ _ dX11_sheet_38
        · refine g_iload_n O dX11_sheet_39 4 rfl rfl ?_
          refine g_bipush O dX11_sheet_40 (40 : Int32) (by decide) ?_
          refine g_icmp_le 48 O dX11_sheet_42 (by decide) hf (fun c9 hf => ?_) (fun c9 hf => ?_)
          · refine g_iload_n O dX11_sheet_48 4 rfl rfl ?_
            refine g_if_ge 55 O dX11_sheet_49 (by decide) hf (fun c10 hf => ?_) (fun c10 hf => ?_)
            · refine g_aload O dX11_sheet_55 0 rfl ?_
              refine g_iload_n O dX11_sheet_57 3 rfl rfl ?_
              refine g_iload_n O dX11_sheet_58 4 rfl rfl ?_
              obtain ⟨q11, hq11, hf⟩ := k_obd hN hf
              refine g_callV (rest := []) O dX11_sheet_59 (ct_X7_begin hZ (hp2 _ rfl) hq11) vx_RX11_306 (hp2 _ rfl) rfl rfl (by decide) (Nat.le_of_ble_eq_true rfl) (fun hp12 => ?_)
              change G Z C q11 62 [(4, .ref (za Z w3)), (0, .ref (za Z i0)), (1, .int p1), (2, .int p2), (3, .int p3)] []
              refine g_iconst O dX11_sheet_62 (1 : Int32) (by decide) ?_
              exact hR _ _ hf _ _ dX11_sheet_63
            · refine g_bipush O dX11_sheet_52 (-14 : Int32) (by decide) ?_
              exact hR _ _ hf _ _ dX11_sheet_54
          · refine g_bipush O dX11_sheet_45 (-2 : Int32) (by decide) ?_
            exact hR _ _ hf _ _ dX11_sheet_47
      · refine g_bipush O dX11_sheet_22 (-2 : Int32) (by decide) ?_
        exact hR _ _ hf _ _ dX11_sheet_24

set_option maxHeartbeats 4000000 in
set_option maxRecDepth 100000 in
theorem ct_X11_put {Z : ZT} (hZ : ZOk Z) {σ : Mem} {i0 : Nat} {p1 : Int32} {p2 : Int32} {p3 : Int32} (h0 : kn i0 = 11) {r : (Int32 × Mem)} (hf : fX11_put σ i0 p1 p2 p3 = some r) : Ct Z yX11_put cX11_put 5 (some .int) 2 44 [.ref (za Z i0), .int p1, .int p2, .int p3] σ (some (.int r.1)) True r.2 := by
  refine ct_im hZ (by decide +kernel) (Nat.le_of_ble_eq_true rfl) hf (fun C K O hN hR hf => ?_)
  have O : Ok Z C RX11 cX11_put 5 2 44 := O
  change G Z C σ 0 [(0, .ref (za Z i0)), (1, .int p1), (2, .int p2), (3, .int p3)] []
  unfold fX11_put at hf
  refine g_aload_n O dX11_put_0 0 rfl rfl ?_
  refine g_iload_n O dX11_put_1 1 rfl rfl ?_
  obtain ⟨q1, hq1, hf⟩ := k_obd hN hf
  refine g_callV (rest := []) O dX11_put_2 (ct_X11_sheetAt hZ h0 hq1) vx_RX11_280 h0 rfl rfl (by decide) (Nat.le_of_ble_eq_true rfl) (fun hp2 => ?_)
  refine k_ocs hf (fun he hf1 => ?_) (fun w3 he hf1 => ?_)
  · subst he
    have hf := hf1
    change G Z C σ 5 [(0, .ref (za Z i0)), (1, .int p1), (2, .int p2), (3, .int p3)] [.null]
    refine g_astoreN O dX11_put_5 (by decide) [(4, .null), (0, .ref (za Z i0)), (1, .int p1), (2, .int p2), (3, .int p3)] rfl ?_
    refine g_aloadN O dX11_put_7 0 rfl ?_
    refine g_ifnonnullN O dX11_put_9 ?_
    refine g_bipush O dX11_put_12 (-2 : Int32) (by decide) ?_
    exact hR _ _ hf _ _ dX11_put_14
  · subst he
    have hf := hf1
    change G Z C σ 5 [(0, .ref (za Z i0)), (1, .int p1), (2, .int p2), (3, .int p3)] [.ref (za Z w3)]
    refine g_astoreP O dX11_put_5 (by decide) [(4, .ref (za Z w3)), (0, .ref (za Z i0)), (1, .int p1), (2, .int p2), (3, .int p3)] rfl ?_
    refine g_aload O dX11_put_7 0 rfl ?_
    refine g_ifnonnullR 15 O dX11_put_9 (by decide) ?_
    refine g_aload O dX11_put_15 0 rfl ?_
    obtain ⟨q4, hq4, hf⟩ := k_obd hN hf
    refine g_callV (rest := []) O dX11_put_17 (ct_X7_isMissing hZ (hp2 _ rfl) hq4) vx_RX11_284 (hp2 _ rfl) rfl rfl (by decide) (Nat.le_of_ble_eq_true rfl) (fun hp5 => ?_)
    change G Z C σ 20 [(4, .ref (za Z w3)), (0, .ref (za Z i0)), (1, .int p1), (2, .int p2), (3, .int p3)] [.int q4]
    refine g_if_eq 26 O dX11_put_20 (by decide) hf (fun c6 hf => ?_) (fun c6 hf => ?_)
    · refine g_aload O dX11_put_26 0 rfl ?_
      refine g_iload_n O dX11_put_28 3 rfl rfl ?_
      refine g_iconst O dX11_put_29 (1 : Int32) (by decide) ?_
      obtain ⟨q7, hq7, hf⟩ := k_obd hN hf
      refine g_callV (rest := []) O dX11_put_30 (ct_X7_hasRun hZ (hp2 _ rfl) hq7) vx_RX11_307 (hp2 _ rfl) rfl rfl (by decide) (Nat.le_of_ble_eq_true rfl) (fun hp8 => ?_)
      change G Z C σ 33 [(4, .ref (za Z w3)), (0, .ref (za Z i0)), (1, .int p1), (2, .int p2), (3, .int p3)] [.int q7]
      refine g_if_ne 39 O dX11_put_33 (by decide) hf (fun c9 hf => ?_) (fun c9 hf => ?_)
      · refine g_bipush O dX11_put_36 (-12 : Int32) (by decide) ?_
        exact hR _ _ hf _ _ dX11_put_38
      · refine g_aload O dX11_put_39 0 rfl ?_
        refine g_iload_n O dX11_put_41 3 rfl rfl ?_
        refine g_iload_n O dX11_put_42 4 rfl rfl ?_
        obtain ⟨q10, hq10, hf⟩ := k_obd hN hf
        refine g_callV (rest := []) O dX11_put_43 (ct_X7_set hZ (hp2 _ rfl) hq10) vx_RX11_310 (hp2 _ rfl) rfl rfl (by decide) (Nat.le_of_ble_eq_true rfl) (fun hp11 => ?_)
        change G Z C q10 46 [(4, .ref (za Z w3)), (0, .ref (za Z i0)), (1, .int p1), (2, .int p2), (3, .int p3)] []
        refine g_iconst O dX11_put_46 (1 : Int32) (by decide) ?_
        exact hR _ _ hf _ _ dX11_put_47
    · refine g_bipush O dX11_put_23 (-11 : Int32) (by decide) ?_
      exact hR _ _ hf _ _ dX11_put_25

set_option maxHeartbeats 4000000 in
set_option maxRecDepth 100000 in
theorem ct_X11_copy {Z : ZT} (hZ : ZOk Z) {σ : Mem} {i0 : Nat} {p1 : Int32} {p2 : Int32} {p3 : Int32} {p4 : Int32} {p5 : Int32} (h0 : kn i0 = 11) {r : (Int32 × Mem)} (hf : fX11_copy σ i0 p1 p2 p3 p4 p5 = some r) : Ct Z yX11_copy cX11_copy 8 (some .int) 2 64 [.ref (za Z i0), .int p1, .int p2, .int p3, .int p4, .int p5] σ (some (.int r.1)) True r.2 := by
  refine ct_im hZ (by decide +kernel) (Nat.le_of_ble_eq_true rfl) hf (fun C K O hN hR hf => ?_)
  have O : Ok Z C RX11 cX11_copy 8 2 64 := O
  change G Z C σ 0 [(0, .ref (za Z i0)), (1, .int p1), (2, .int p2), (3, .int p3), (4, .int p4), (5, .int p5)] []
  unfold fX11_copy at hf
  refine g_aload_n O dX11_copy_0 0 rfl rfl ?_
  refine g_iload_n O dX11_copy_1 1 rfl rfl ?_
  obtain ⟨q1, hq1, hf⟩ := k_obd hN hf
  refine g_callV (rest := []) O dX11_copy_2 (ct_X11_sheetAt hZ h0 hq1) vx_RX11_280 h0 rfl rfl (by decide) (Nat.le_of_ble_eq_true rfl) (fun hp2 => ?_)
  refine k_ocs hf (fun he hf1 => ?_) (fun w3 he hf1 => ?_)
  · subst he
    have hf := hf1
    change G Z C σ 5 [(0, .ref (za Z i0)), (1, .int p1), (2, .int p2), (3, .int p3), (4, .int p4), (5, .int p5)] [.null]
    refine g_astoreN O dX11_copy_5 (by decide) [(6, .null), (0, .ref (za Z i0)), (1, .int p1), (2, .int p2), (3, .int p3), (4, .int p4), (5, .int p5)] rfl ?_
    refine g_aload_n O dX11_copy_7 1 rfl rfl ?_
    refine g_iload_n O dX11_copy_8 4 rfl rfl ?_
    obtain ⟨q4, hq4, hf⟩ := k_obd hN hf
    refine g_callV (rest := []) O dX11_copy_9 (ct_X11_sheetAt hZ h0 hq4) vx_RX11_280 h0 rfl rfl (by decide) (Nat.le_of_ble_eq_true rfl) (fun hp5 => ?_)
    refine k_ocs hf (fun he hf1 => ?_) (fun w6 he hf1 => ?_)
    · subst he
      have hf := hf1
      change G Z C σ 12 [(6, .null), (0, .ref (za Z i0)), (1, .int p1), (2, .int p2), (3, .int p3), (4, .int p4), (5, .int p5)] [.null]
      refine g_astoreN O dX11_copy_12 (by decide) [(7, .null), (6, .null), (0, .ref (za Z i0)), (1, .int p1), (2, .int p2), (3, .int p3), (4, .int p4), (5, .int p5)] rfl ?_
      refine g_aloadN O dX11_copy_14 1 rfl ?_
      refine g_ifnullN 24 O dX11_copy_16 (by decide) ?_
      refine g_bipush O dX11_copy_24 (-2 : Int32) (by decide) ?_
      exact hR _ _ hf _ _ dX11_copy_26
    · subst he
      have hf := hf1
      change G Z C σ 12 [(6, .null), (0, .ref (za Z i0)), (1, .int p1), (2, .int p2), (3, .int p3), (4, .int p4), (5, .int p5)] [.ref (za Z w6)]
      refine g_astoreP O dX11_copy_12 (by decide) [(7, .ref (za Z w6)), (6, .null), (0, .ref (za Z i0)), (1, .int p1), (2, .int p2), (3, .int p3), (4, .int p4), (5, .int p5)] rfl ?_
      refine g_aloadN O dX11_copy_14 1 rfl ?_
      refine g_ifnullN 24 O dX11_copy_16 (by decide) ?_
      refine g_bipush O dX11_copy_24 (-2 : Int32) (by decide) ?_
      exact hR _ _ hf _ _ dX11_copy_26
  · subst he
    have hf := hf1
    change G Z C σ 5 [(0, .ref (za Z i0)), (1, .int p1), (2, .int p2), (3, .int p3), (4, .int p4), (5, .int p5)] [.ref (za Z w3)]
    refine g_astoreP O dX11_copy_5 (by decide) [(6, .ref (za Z w3)), (0, .ref (za Z i0)), (1, .int p1), (2, .int p2), (3, .int p3), (4, .int p4), (5, .int p5)] rfl ?_
    refine g_aload_n O dX11_copy_7 1 rfl rfl ?_
    refine g_iload_n O dX11_copy_8 4 rfl rfl ?_
    obtain ⟨q7, hq7, hf⟩ := k_obd hN hf
    refine g_callV (rest := []) O dX11_copy_9 (ct_X11_sheetAt hZ h0 hq7) vx_RX11_280 h0 rfl rfl (by decide) (Nat.le_of_ble_eq_true rfl) (fun hp8 => ?_)
    refine k_ocs hf (fun he hf1 => ?_) (fun w9 he hf1 => ?_)
    · subst he
      have hf := hf1
      change G Z C σ 12 [(6, .ref (za Z w3)), (0, .ref (za Z i0)), (1, .int p1), (2, .int p2), (3, .int p3), (4, .int p4), (5, .int p5)] [.null]
      refine g_astoreN O dX11_copy_12 (by decide) [(7, .null), (6, .ref (za Z w3)), (0, .ref (za Z i0)), (1, .int p1), (2, .int p2), (3, .int p3), (4, .int p4), (5, .int p5)] rfl ?_
      refine g_aload O dX11_copy_14 1 rfl ?_
      refine g_ifnullR O dX11_copy_16 ?_
      refine g_aloadN O dX11_copy_19 0 rfl ?_
      refine g_ifnonnullN O dX11_copy_21 ?_
      refine g_bipush O dX11_copy_24 (-2 : Int32) (by decide) ?_
      exact hR _ _ hf _ _ dX11_copy_26
    · subst he
      have hf := hf1
      change G Z C σ 12 [(6, .ref (za Z w3)), (0, .ref (za Z i0)), (1, .int p1), (2, .int p2), (3, .int p3), (4, .int p4), (5, .int p5)] [.ref (za Z w9)]
      refine g_astoreP O dX11_copy_12 (by decide) [(7, .ref (za Z w9)), (6, .ref (za Z w3)), (0, .ref (za Z i0)), (1, .int p1), (2, .int p2), (3, .int p3), (4, .int p4), (5, .int p5)] rfl ?_
      refine g_aload O dX11_copy_14 1 rfl ?_
      refine g_ifnullR O dX11_copy_16 ?_
      refine g_aload O dX11_copy_19 0 rfl ?_
      refine g_ifnonnullR 27 O dX11_copy_21 (by decide) ?_
      refine g_aload O dX11_copy_27 1 rfl ?_
      obtain ⟨q10, hq10, hf⟩ := k_obd hN hf
      refine g_callV (rest := []) O dX11_copy_29 (ct_X7_isMissing hZ (hp2 _ rfl) hq10) vx_RX11_284 (hp2 _ rfl) rfl rfl (by decide) (Nat.le_of_ble_eq_true rfl) (fun hp11 => ?_)
      change G Z C σ 32 [(7, .ref (za Z w9)), (6, .ref (za Z w3)), (0, .ref (za Z i0)), (1, .int p1), (2, .int p2), (3, .int p3), (4, .int p4), (5, .int p5)] [.int q10]
      refine g_if_ne 43 O dX11_copy_32 (by decide) hf (fun c12 hf => ?_) (fun c12 hf => ?_)
      · refine g_aload O dX11_copy_35 0 rfl ?_
        obtain ⟨q13, hq13, hf⟩ := k_obd hN hf
        refine g_callV (rest := []) O dX11_copy_37 (ct_X7_isMissing hZ (hp8 _ rfl) hq13) vx_RX11_284 (hp8 _ rfl) rfl rfl (by decide) (Nat.le_of_ble_eq_true rfl) (fun hp14 => ?_)
        change G Z C σ 40 [(7, .ref (za Z w9)), (6, .ref (za Z w3)), (0, .ref (za Z i0)), (1, .int p1), (2, .int p2), (3, .int p3), (4, .int p4), (5, .int p5)] [.int q13]
        refine g_if_eq 46 O dX11_copy_40 (by decide) hf (fun c15 hf => ?_) (fun c15 hf => ?_)
        · refine g_aload O dX11_copy_46 1 rfl ?_
          refine g_getI O dX11_copy_48 fx_RX11_313 (hp2 _ rfl) ?_
          refine g_aload O dX11_copy_51 0 rfl ?_
          refine g_getI O dX11_copy_53 fx_RX11_313 (hp8 _ rfl) ?_
          refine g_icmp_eq 62 O dX11_copy_56 (by decide) hf (fun c16 hf => ?_) (fun c16 hf => ?_)
          · refine g_aload O dX11_copy_62 1 rfl ?_
            refine g_iload_n O dX11_copy_64 4 rfl rfl ?_
            refine g_iload O dX11_copy_65 7 rfl ?_
            obtain ⟨q17, hq17, hf⟩ := k_obd hN hf
            refine g_callV (rest := []) O dX11_copy_67 (ct_X7_hasRun hZ (hp2 _ rfl) hq17) vx_RX11_307 (hp2 _ rfl) rfl rfl (by decide) (Nat.le_of_ble_eq_true rfl) (fun hp18 => ?_)
            change G Z C σ 70 [(7, .ref (za Z w9)), (6, .ref (za Z w3)), (0, .ref (za Z i0)), (1, .int p1), (2, .int p2), (3, .int p3), (4, .int p4), (5, .int p5)] [.int q17]
            refine g_if_eq 85 O dX11_copy_70 (by decide) hf (fun c19 hf => ?_) (fun c19 hf => ?_)
            · refine g_bipush O dX11_copy_85 (-12 : Int32) (by decide) ?_
              exact hR _ _ hf _ _ dX11_copy_87
            · refine g_aload O dX11_copy_73 0 rfl ?_
              refine g_iload O dX11_copy_75 6 rfl ?_
              refine g_iload O dX11_copy_77 7 rfl ?_
              obtain ⟨q20, hq20, hf⟩ := k_obd hN hf
              refine g_callV (rest := []) O dX11_copy_79 (ct_X7_hasRun hZ (hp8 _ rfl) hq20) vx_RX11_307 (hp8 _ rfl) rfl rfl (by decide) (Nat.le_of_ble_eq_true rfl) (fun hp21 => ?_)
              change G Z C σ 82 [(7, .ref (za Z w9)), (6, .ref (za Z w3)), (0, .ref (za Z i0)), (1, .int p1), (2, .int p2), (3, .int p3), (4, .int p4), (5, .int p5)] [.int q20]
              refine g_if_ne 88 O dX11_copy_82 (by decide) hf (fun c22 hf => ?_) (fun c22 hf => ?_)
              · refine g_bipush O dX11_copy_85 (-12 : Int32) (by decide) ?_
                exact hR _ _ hf _ _ dX11_copy_87
              · refine g_aload O dX11_copy_88 0 rfl ?_
                refine g_iload O dX11_copy_90 6 rfl ?_
                refine g_aload O dX11_copy_92 1 rfl ?_
                refine g_iload_n O dX11_copy_94 4 rfl rfl ?_
                refine g_iload O dX11_copy_95 7 rfl ?_
                obtain ⟨q23, hq23, hf⟩ := k_obd hN hf
                refine g_callV (rest := []) O dX11_copy_97 (ct_X7_take hZ (hp8 _ rfl) (hp2 _ rfl) hq23) vx_RX11_316 (hp8 _ rfl) rfl rfl (by decide) (Nat.le_of_ble_eq_true rfl) (fun hp24 => ?_)
                change G Z C q23 100 [(7, .ref (za Z w9)), (6, .ref (za Z w3)), (0, .ref (za Z i0)), (1, .int p1), (2, .int p2), (3, .int p3), (4, .int p4), (5, .int p5)] []
                refine g_iload O dX11_copy_100 7 rfl ?_
                exact hR _ _ hf _ _ dX11_copy_102
          · refine g_bipush O dX11_copy_59 (-13 : Int32) (by decide) ?_
            exact hR _ _ hf _ _ dX11_copy_61
        · refine g_bipush O dX11_copy_43 (-11 : Int32) (by decide) ?_
          exact hR _ _ hf _ _ dX11_copy_45
      · refine g_bipush O dX11_copy_43 (-11 : Int32) (by decide) ?_
        exact hR _ _ hf _ _ dX11_copy_45

