set_option maxHeartbeats 4000000 in
set_option maxRecDepth 100000 in
theorem ct_X6_waysOfFrame {Z : ZT} (hZ : ZOk Z) {σ : Mem} {i0 : Nat} {i1 : Nat} {i2 : Nat} {i3 : Nat} {p4 : Int32} (h0 : kn i0 = 6) (h1 : kn i1 = 0) (h2 : kn i2 = 5) (h3 : kn i3 = 3) {r : (Int32 × Mem)} (hf : fX6_waysOfFrame σ i0 i1 i2 i3 p4 = some r) : Ct Z yX6_waysOfFrame cX6_waysOfFrame 7 (some .int) 5 147 [.ref (za Z i0), .ref (za Z i1), .ref (za Z i2), .ref (za Z i3), .int p4] σ (some (.int r.1)) True r.2 := by
  refine ct_im hZ (by decide +kernel) (Nat.le_of_ble_eq_true rfl) hf (fun C K O hN hR hf => ?_)
  have O : Ok Z C RX6 cX6_waysOfFrame 7 5 147 := O
  change G Z C σ 0 [(0, .ref (za Z i0)), (1, .ref (za Z i1)), (2, .ref (za Z i2)), (3, .ref (za Z i3)), (4, .int p4)] []
  unfold fX6_waysOfFrame at hf
  refine g_iconst O dX6_waysOfFrame_0 (1 : Int32) (by decide) ?_
  refine g_istoreP O dX6_waysOfFrame_1 (by decide) [(5, .int (1 : Int32)), (0, .ref (za Z i0)), (1, .ref (za Z i1)), (2, .ref (za Z i2)), (3, .ref (za Z i3)), (4, .int p4)] rfl ?_
  refine g_iconst O dX6_waysOfFrame_3 (0 : Int32) (by decide) ?_
  refine g_istoreP O dX6_waysOfFrame_4 (by decide) [(6, .int (0 : Int32)), (5, .int (1 : Int32)), (0, .ref (za Z i0)), (1, .ref (za Z i1)), (2, .ref (za Z i2)), (3, .ref (za Z i3)), (4, .int p4)] rfl ?_
  refine g_lp hN (fun (a1 : Int32 × Int32 × Mem) => G Z C a1.2.2 6 [(6, .int a1.1), (5, .int a1.2.1), (0, .ref (za Z i0)), (1, .ref (za Z i1)), (2, .ref (za Z i2)), (3, .ref (za Z i3)), (4, .int p4)] []) hf (fun a1 _ hN1 hI1 hX1 hf => ?_)
  unfold sX6_waysOfFrame_6 at hf
  refine g_iload O dX6_waysOfFrame_6 0 rfl ?_
  refine g_aload_n O dX6_waysOfFrame_8 5 rfl rfl ?_
  refine g_getI O dX6_waysOfFrame_9 fx_RX6_53 h3 ?_
  refine g_icmp_ge 50 O dX6_waysOfFrame_12 (by decide) hf (fun c2 hf => ?_) (fun c2 hf => ?_)
  · have hf := hX1 _ hf
    refine g_iconst O dX6_waysOfFrame_50 (0 : Int32) (by decide) ?_
    refine g_istoreP O dX6_waysOfFrame_51 (by decide) [(6, .int (0 : Int32)), (5, .int a1.2.1), (0, .ref (za Z i0)), (1, .ref (za Z i1)), (2, .ref (za Z i2)), (3, .ref (za Z i3)), (4, .int p4)] rfl ?_
    refine g_lp hN (fun (a3 : Int32 × Int32 × Mem) => G Z C a3.2.2 53 [(6, .int a3.1), (5, .int a3.2.1), (0, .ref (za Z i0)), (1, .ref (za Z i1)), (2, .ref (za Z i2)), (3, .ref (za Z i3)), (4, .int p4)] []) hf (fun a3 _ hN3 hI3 hX3 hf => ?_)
    unfold sX6_waysOfFrame_53 at hf
    refine g_iload O dX6_waysOfFrame_53 0 rfl ?_
    refine g_iconst O dX6_waysOfFrame_55 (3 : Int32) (by decide) ?_
    refine g_icmp_ge 100 O dX6_waysOfFrame_56 (by decide) hf (fun c4 hf => ?_) (fun c4 hf => ?_)
    · have hf := hX3 _ hf
      refine g_iload O dX6_waysOfFrame_100 1 rfl ?_
      exact hR _ _ hf _ _ dX6_waysOfFrame_102
    · refine g_iload O dX6_waysOfFrame_59 1 rfl ?_
      refine g_if_le 100 O dX6_waysOfFrame_61 (by decide) hf (fun c5 hf => ?_) (fun c5 hf => ?_)
      · have hf := hX3 _ hf
        refine g_iload O dX6_waysOfFrame_100 1 rfl ?_
        exact hR _ _ hf _ _ dX6_waysOfFrame_102
      · refine g_iload O dX6_waysOfFrame_64 1 rfl ?_
        refine g_aload_n O dX6_waysOfFrame_66 5 rfl rfl ?_
        refine g_iload O dX6_waysOfFrame_67 0 rfl ?_
        obtain ⟨q6, hq6, hf⟩ := k_obd hN3 hf
        refine g_callV (rest := [.int a3.2.1]) O dX6_waysOfFrame_69 (ct_X3_nounOf hZ h3 hq6) vx_RX6_87 h3 rfl rfl (by decide) (Nat.le_of_ble_eq_true rfl) (fun hp7 => ?_)
        change G Z C a3.2.2 72 [(6, .int a3.1), (5, .int a3.2.1), (0, .ref (za Z i0)), (1, .ref (za Z i1)), (2, .ref (za Z i2)), (3, .ref (za Z i3)), (4, .int p4)] [.int q6, .int a3.2.1]
        refine g_iconst O dX6_waysOfFrame_72 (-1 : Int32) (by decide) ?_
        refine g_icmp_ne 80 O dX6_waysOfFrame_73 (by decide) hf (fun c8 hf => ?_) (fun c8 hf => ?_)
        · refine g_iconst O dX6_waysOfFrame_76 (1 : Int32) (by decide) ?_
          refine g_goto 91 O dX6_waysOfFrame_77 (by decide) ?_
          refine g_imul O dX6_waysOfFrame_91 ?_
          refine g_istore O dX6_waysOfFrame_92 (by decide) (fun y => [(5, .int y), (6, .int a3.1), (0, .ref (za Z i0)), (1, .ref (za Z i1)), (2, .ref (za Z i2)), (3, .ref (za Z i3)), (4, .int p4)]) (fun _ => rfl) hf (fun x9 hf => ?_)
          refine g_iinc O dX6_waysOfFrame_94 1 rfl (by decide) (1) (by decide) (fun y => [(6, .int y), (5, .int x9), (0, .ref (za Z i0)), (1, .ref (za Z i1)), (2, .ref (za Z i2)), (3, .ref (za Z i3)), (4, .int p4)]) (fun _ => rfl) hf (fun x10 hf => ?_)
          refine g_goto 53 O dX6_waysOfFrame_97 (by decide) ?_
          exact hI3 _ hf
        · refine g_aload_n O dX6_waysOfFrame_80 2 rfl rfl ?_
          refine g_aload_n O dX6_waysOfFrame_81 3 rfl rfl ?_
          refine g_aload_n O dX6_waysOfFrame_82 4 rfl rfl ?_
          refine g_aload_n O dX6_waysOfFrame_83 5 rfl rfl ?_
          refine g_iload O dX6_waysOfFrame_84 0 rfl ?_
          refine g_iload O dX6_waysOfFrame_86 6 rfl ?_
          obtain ⟨q11, hq11, hf⟩ := k_obd hN3 hf
          refine g_callV (rest := [.int a3.2.1]) O dX6_waysOfFrame_88 (ct_X6_waysOfGroup hZ h0 h1 h2 h3 hq11) vx_RX6_90 h0 rfl rfl (by decide) (Nat.le_of_ble_eq_true rfl) (fun hp12 => ?_)
          change G Z C q11.2 91 [(6, .int a3.1), (5, .int a3.2.1), (0, .ref (za Z i0)), (1, .ref (za Z i1)), (2, .ref (za Z i2)), (3, .ref (za Z i3)), (4, .int p4)] [.int q11.1, .int a3.2.1]
          refine g_imul O dX6_waysOfFrame_91 ?_
          refine g_istore O dX6_waysOfFrame_92 (by decide) (fun y => [(5, .int y), (6, .int a3.1), (0, .ref (za Z i0)), (1, .ref (za Z i1)), (2, .ref (za Z i2)), (3, .ref (za Z i3)), (4, .int p4)]) (fun _ => rfl) hf (fun x13 hf => ?_)
          refine g_iinc O dX6_waysOfFrame_94 1 rfl (by decide) (1) (by decide) (fun y => [(6, .int y), (5, .int x13), (0, .ref (za Z i0)), (1, .ref (za Z i1)), (2, .ref (za Z i2)), (3, .ref (za Z i3)), (4, .int p4)]) (fun _ => rfl) hf (fun x14 hf => ?_)
          refine g_goto 53 O dX6_waysOfFrame_97 (by decide) ?_
          exact hI3 _ hf
  · refine g_iload O dX6_waysOfFrame_15 1 rfl ?_
    refine g_aload_n O dX6_waysOfFrame_17 5 rfl rfl ?_
    refine g_iload O dX6_waysOfFrame_18 0 rfl ?_
    obtain ⟨q15, hq15, hf⟩ := k_obd hN1 hf
    refine g_callV (rest := [.int a1.2.1]) O dX6_waysOfFrame_20 (ct_X3_groupOf hZ h3 hq15) vx_RX6_80 h3 rfl rfl (by decide) (Nat.le_of_ble_eq_true rfl) (fun hp16 => ?_)
    change G Z C a1.2.2 23 [(6, .int a1.1), (5, .int a1.2.1), (0, .ref (za Z i0)), (1, .ref (za Z i1)), (2, .ref (za Z i2)), (3, .ref (za Z i3)), (4, .int p4)] [.int q15, .int a1.2.1]
    refine g_iconst O dX6_waysOfFrame_23 (-1 : Int32) (by decide) ?_
    refine g_icmp_ne 40 O dX6_waysOfFrame_24 (by decide) hf (fun c17 hf => ?_) (fun c17 hf => ?_)
    · refine g_aload_n O dX6_waysOfFrame_27 2 rfl rfl ?_
      refine g_aload_n O dX6_waysOfFrame_28 3 rfl rfl ?_
      refine g_aload_n O dX6_waysOfFrame_29 4 rfl rfl ?_
      refine g_aload_n O dX6_waysOfFrame_30 5 rfl rfl ?_
      refine g_iload O dX6_waysOfFrame_31 0 rfl ?_
      refine g_iconst O dX6_waysOfFrame_33 (0 : Int32) (by decide) ?_
      obtain ⟨q18, hq18, hf⟩ := k_obd hN1 hf
      refine g_callV (rest := [.int a1.2.1]) O dX6_waysOfFrame_34 (ct_X6_waysOfHole hZ h0 h1 h2 h3 hq18) vx_RX6_83 h0 rfl rfl (by decide) (Nat.le_of_ble_eq_true rfl) (fun hp19 => ?_)
      change G Z C q18.2 37 [(6, .int a1.1), (5, .int a1.2.1), (0, .ref (za Z i0)), (1, .ref (za Z i1)), (2, .ref (za Z i2)), (3, .ref (za Z i3)), (4, .int p4)] [.int q18.1, .int a1.2.1]
      refine g_goto 41 O dX6_waysOfFrame_37 (by decide) ?_
      refine g_imul O dX6_waysOfFrame_41 ?_
      refine g_istore O dX6_waysOfFrame_42 (by decide) (fun y => [(5, .int y), (6, .int a1.1), (0, .ref (za Z i0)), (1, .ref (za Z i1)), (2, .ref (za Z i2)), (3, .ref (za Z i3)), (4, .int p4)]) (fun _ => rfl) hf (fun x20 hf => ?_)
      refine g_iinc O dX6_waysOfFrame_44 1 rfl (by decide) (1) (by decide) (fun y => [(6, .int y), (5, .int x20), (0, .ref (za Z i0)), (1, .ref (za Z i1)), (2, .ref (za Z i2)), (3, .ref (za Z i3)), (4, .int p4)]) (fun _ => rfl) hf (fun x21 hf => ?_)
      refine g_goto 6 O dX6_waysOfFrame_47 (by decide) ?_
      exact hI1 _ hf
    · refine g_iconst O dX6_waysOfFrame_40 (1 : Int32) (by decide) ?_
      refine g_imul O dX6_waysOfFrame_41 ?_
      refine g_istore O dX6_waysOfFrame_42 (by decide) (fun y => [(5, .int y), (6, .int a1.1), (0, .ref (za Z i0)), (1, .ref (za Z i1)), (2, .ref (za Z i2)), (3, .ref (za Z i3)), (4, .int p4)]) (fun _ => rfl) hf (fun x22 hf => ?_)
      refine g_iinc O dX6_waysOfFrame_44 1 rfl (by decide) (1) (by decide) (fun y => [(6, .int y), (5, .int x22), (0, .ref (za Z i0)), (1, .ref (za Z i1)), (2, .ref (za Z i2)), (3, .ref (za Z i3)), (4, .int p4)]) (fun _ => rfl) hf (fun x23 hf => ?_)
      refine g_goto 6 O dX6_waysOfFrame_47 (by decide) ?_
      exact hI1 _ hf

set_option maxHeartbeats 4000000 in
set_option maxRecDepth 100000 in
theorem ct_X6_countReadings {Z : ZT} (hZ : ZOk Z) {σ : Mem} {i0 : Nat} {i1 : Nat} {i2 : Nat} (h0 : kn i0 = 6) (h1 : kn i1 = 0) (h2 : kn i2 = 5) {r : Mem} (hf : fX6_countReadings σ i0 i1 i2 = some r) : Ct Z yX6_countReadings cX6_countReadings 6 none 6 173 [.ref (za Z i0), .ref (za Z i1), .ref (za Z i2)] σ none True r := by
  refine ct_v hZ (by decide +kernel) (Nat.le_of_ble_eq_true rfl) hf (fun C K O hN hR hf => ?_)
  have O : Ok Z C RX6 cX6_countReadings 6 6 173 := O
  change G Z C σ 0 [(0, .ref (za Z i0)), (1, .ref (za Z i1)), (2, .ref (za Z i2))] []
  unfold fX6_countReadings at hf
  refine g_aload_n O dX6_countReadings_0 0 rfl rfl ?_
  refine g_aload_n O dX6_countReadings_1 2 rfl rfl ?_
  obtain ⟨q1, hq1, hf⟩ := k_obd hN hf
  refine g_callV (rest := []) O dX6_countReadings_2 (ct_X6_split hZ h0 h2 hq1) vx_RX6_30 h0 rfl rfl (by decide) (Nat.le_of_ble_eq_true rfl) (fun hp2 => ?_)
  change G Z C q1 5 [(0, .ref (za Z i0)), (1, .ref (za Z i1)), (2, .ref (za Z i2))] []
  refine g_aload_n O dX6_countReadings_5 0 rfl rfl ?_
  refine g_iconst O dX6_countReadings_6 (0 : Int32) (by decide) ?_
  refine g_putI O dX6_countReadings_7 fp_RX6_34 h0 hf (fun m3 hf => ?_)
  refine g_aload_n O dX6_countReadings_10 0 rfl rfl ?_
  refine g_iconst O dX6_countReadings_11 (-1 : Int32) (by decide) ?_
  refine g_putI O dX6_countReadings_12 fp_RX6_38 h0 hf (fun m4 hf => ?_)
  refine g_aload_n O dX6_countReadings_15 0 rfl rfl ?_
  refine g_iconst O dX6_countReadings_16 (-1 : Int32) (by decide) ?_
  refine g_putI O dX6_countReadings_17 fp_RX6_41 h0 hf (fun m5 hf => ?_)
  refine g_iconst O dX6_countReadings_20 (0 : Int32) (by decide) ?_
  refine g_istore_nP O dX6_countReadings_21 rfl (by decide) [(3, .int (0 : Int32)), (0, .ref (za Z i0)), (1, .ref (za Z i1)), (2, .ref (za Z i2))] rfl ?_
  refine g_lp hN (fun (a6 : Int32 × Mem) => G Z C a6.2 22 [(3, .int a6.1), (0, .ref (za Z i0)), (1, .ref (za Z i1)), (2, .ref (za Z i2))] []) hf (fun a6 _ hN6 hI6 hX6 hf => ?_)
  unfold sX6_countReadings_22 at hf
  refine g_iload_n O dX6_countReadings_22 0 rfl rfl ?_
  refine g_aload_n O dX6_countReadings_23 2 rfl rfl ?_
  refine g_getI O dX6_countReadings_24 fx_RX6_44 h1 ?_
  refine g_iconst O dX6_countReadings_27 (4 : Int32) (by decide) ?_
  refine g_imul O dX6_countReadings_28 ?_
  refine g_icmp_ge 114 O dX6_countReadings_29 (by decide) hf (fun c7 hf => ?_) (fun c7 hf => ?_)
  · have hf := hX6 _ hf
    exact hR _ hf _ _ dX6_countReadings_114
  · refine g_aload_n O dX6_countReadings_32 2 rfl rfl ?_
    refine g_iload_n O dX6_countReadings_33 0 rfl rfl ?_
    refine g_iconst O dX6_countReadings_34 (4 : Int32) (by decide) ?_
    refine g_idivC O (by decide) dX6_countReadings_35 ?_
    obtain ⟨q8, hq8, hf⟩ := k_obd hN6 hf
    refine g_callV (rest := []) O dX6_countReadings_36 (ct_X0_frameAt hZ h1 hq8) vx_RX6_49 h1 rfl rfl (by decide) (Nat.le_of_ble_eq_true rfl) (fun hp9 => ?_)
    refine k_ocs hf (fun he hf1 => ?_) (fun w10 he hf1 => ?_)
    · subst he
      have hf := hf1
      change G Z C a6.2 39 [(3, .int a6.1), (0, .ref (za Z i0)), (1, .ref (za Z i1)), (2, .ref (za Z i2))] [.null]
      refine g_astoreN O dX6_countReadings_39 (by decide) [(4, .null), (3, .int a6.1), (0, .ref (za Z i0)), (1, .ref (za Z i1)), (2, .ref (za Z i2))] rfl ?_
      refine g_aloadN O dX6_countReadings_41 0 rfl ?_
      refine g_ifnullN 108 O dX6_countReadings_43 (by decide) ?_
      refine g_iinc O dX6_countReadings_108 1 rfl (by decide) (1) (by decide) (fun y => [(3, .int y), (4, .null), (0, .ref (za Z i0)), (1, .ref (za Z i1)), (2, .ref (za Z i2))]) (fun _ => rfl) hf (fun x11 hf => ?_)
      refine g_goto 22 O dX6_countReadings_111 (by decide) ?_
      refine g_sub [0, 2, 3, 4] rfl ?_
      exact hI6 _ hf
    · subst he
      have hf := hf1
      change G Z C a6.2 39 [(3, .int a6.1), (0, .ref (za Z i0)), (1, .ref (za Z i1)), (2, .ref (za Z i2))] [.ref (za Z w10)]
      refine g_astoreP O dX6_countReadings_39 (by decide) [(4, .ref (za Z w10)), (3, .int a6.1), (0, .ref (za Z i0)), (1, .ref (za Z i1)), (2, .ref (za Z i2))] rfl ?_
      refine g_aload O dX6_countReadings_41 0 rfl ?_
      refine g_ifnullR O dX6_countReadings_43 ?_
      refine g_aload O dX6_countReadings_46 0 rfl ?_
      refine g_getI O dX6_countReadings_48 fx_RX6_53 (hp9 _ rfl) ?_
      refine g_aload_n O dX6_countReadings_51 2 rfl rfl ?_
      refine g_getI O dX6_countReadings_52 fx_RX6_58 h0 ?_
      refine g_icmp_ne 108 O dX6_countReadings_55 (by decide) hf (fun c12 hf => ?_) (fun c12 hf => ?_)
      · refine g_aload_n O dX6_countReadings_58 2 rfl rfl ?_
        refine g_aload_n O dX6_countReadings_59 3 rfl rfl ?_
        refine g_aload_n O dX6_countReadings_60 4 rfl rfl ?_
        refine g_aload O dX6_countReadings_61 0 rfl ?_
        refine g_iload_n O dX6_countReadings_63 1 rfl rfl ?_
        refine g_iconst O dX6_countReadings_64 (4 : Int32) (by decide) ?_
        refine g_iremC O (by decide) dX6_countReadings_65 ?_
        obtain ⟨q13, hq13, hf⟩ := k_obd hN6 hf
        refine g_callV (rest := []) O dX6_countReadings_66 (ct_X6_waysOfFrame hZ h0 h1 h2 (hp9 _ rfl) hq13) vx_RX6_61 h0 rfl rfl (by decide) (Nat.le_of_ble_eq_true rfl) (fun hp14 => ?_)
        change G Z C q13.2 69 [(4, .ref (za Z w10)), (3, .int a6.1), (0, .ref (za Z i0)), (1, .ref (za Z i1)), (2, .ref (za Z i2))] [.int q13.1]
        refine g_istoreP O dX6_countReadings_69 (by decide) [(5, .int q13.1), (4, .ref (za Z w10)), (3, .int a6.1), (0, .ref (za Z i0)), (1, .ref (za Z i1)), (2, .ref (za Z i2))] rfl ?_
        refine g_iload O dX6_countReadings_71 0 rfl ?_
        refine g_jn (fun (y15 : Mem) => G Z C y15 97 [(5, .int q13.1), (3, .int a6.1), (0, .ref (za Z i0)), (1, .ref (za Z i1)), (2, .ref (za Z i2))] []) hf (fun y15 hf => ?_) (fun k15 hk15 hf => ?_)
        · refine g_aload_n O dX6_countReadings_97 2 rfl rfl ?_
          refine g_dup O dX6_countReadings_98 rfl ?_
          refine g_getI O dX6_countReadings_99 fx_RX6_34 h0 ?_
          refine g_iload O dX6_countReadings_102 0 rfl ?_
          refine g_iadd O dX6_countReadings_104 ?_
          refine g_putI O dX6_countReadings_105 fp_RX6_34 h0 hf (fun m16 hf => ?_)
          refine g_iinc O dX6_countReadings_108 1 rfl (by decide) (1) (by decide) (fun y => [(3, .int y), (5, .int q13.1), (0, .ref (za Z i0)), (1, .ref (za Z i1)), (2, .ref (za Z i2))]) (fun _ => rfl) hf (fun x17 hf => ?_)
          refine g_goto 22 O dX6_countReadings_111 (by decide) ?_
          refine g_sub [0, 2, 3, 4] rfl ?_
          exact hI6 _ hf
        · skip
          refine g_if_le 97 O dX6_countReadings_73 (by decide) hf (fun c18 hf => ?_) (fun c18 hf => ?_)
          · refine g_sub [0, 2, 3, 4, 5] rfl ?_
            exact hk15 _ hf
          · refine g_aload_n O dX6_countReadings_76 3 rfl rfl ?_
            refine g_getI O dX6_countReadings_77 fx_RX6_34 h0 ?_
            refine g_if_ne 97 O dX6_countReadings_80 (by decide) hf (fun c19 hf => ?_) (fun c19 hf => ?_)
            · refine g_aload_n O dX6_countReadings_83 3 rfl rfl ?_
              refine g_iload_n O dX6_countReadings_84 2 rfl rfl ?_
              refine g_iconst O dX6_countReadings_85 (4 : Int32) (by decide) ?_
              refine g_idivC O (by decide) dX6_countReadings_86 ?_
              refine g_putI O dX6_countReadings_87 fp_RX6_38 h0 hf (fun m20 hf => ?_)
              refine g_aload_n O dX6_countReadings_90 3 rfl rfl ?_
              refine g_iload_n O dX6_countReadings_91 2 rfl rfl ?_
              refine g_iconst O dX6_countReadings_92 (4 : Int32) (by decide) ?_
              refine g_iremC O (by decide) dX6_countReadings_93 ?_
              refine g_putI O dX6_countReadings_94 fp_RX6_41 h0 hf (fun m21 hf => ?_)
              refine g_sub [0, 2, 3, 4, 5] rfl ?_
              exact hk15 _ hf
            · refine g_sub [0, 2, 3, 4, 5] rfl ?_
              exact hk15 _ hf
      · refine g_iinc O dX6_countReadings_108 1 rfl (by decide) (1) (by decide) (fun y => [(3, .int y), (4, .ref (za Z w10)), (0, .ref (za Z i0)), (1, .ref (za Z i1)), (2, .ref (za Z i2))]) (fun _ => rfl) hf (fun x22 hf => ?_)
        refine g_goto 22 O dX6_countReadings_111 (by decide) ?_
        refine g_sub [0, 2, 3, 4] rfl ?_
        exact hI6 _ hf

set_option maxHeartbeats 4000000 in
set_option maxRecDepth 100000 in
theorem ct_X6_apartFrom {Z : ZT} (hZ : ZOk Z) {σ : Mem} {i0 : Nat} {i1 : Nat} {p2 : Int32} (h0 : kn i0 = 6) (h1 : kn i1 = 5) {r : (Int32 × Mem)} (hf : fX6_apartFrom σ i0 i1 p2 = some r) : Ct Z yX6_apartFrom cX6_apartFrom 9 (some .int) 2 42 [.ref (za Z i0), .ref (za Z i1), .int p2] σ (some (.int r.1)) True r.2 := by
  refine ct_im hZ (by decide +kernel) (Nat.le_of_ble_eq_true rfl) hf (fun C K O hN hR hf => ?_)
  have O : Ok Z C RX6 cX6_apartFrom 9 2 42 := O
  change G Z C σ 0 [(0, .ref (za Z i0)), (1, .ref (za Z i1)), (2, .int p2)] []
  unfold fX6_apartFrom at hf
  refine g_aload_n O dX6_apartFrom_0 0 rfl rfl ?_
  refine g_getR O dX6_apartFrom_1 fx_RX6_14 h0 ?_
  refine g_getI O dX6_apartFrom_4 fx_RX6_75 (kf_6_0 h0) ?_
  refine g_bipush O dX6_apartFrom_7 (10 : Int32) (by decide) ?_
  refine g_mmin O dX6_apartFrom_9 lm_RX6_127 mm_min.1 mm_min.2.1 mm_min.2.2 (by decide) (Nat.le_of_ble_eq_true rfl) ?_
  refine g_istore_n O dX6_apartFrom_12 rfl (by decide) (fun y => [(3, .int y), (0, .ref (za Z i0)), (1, .ref (za Z i1)), (2, .int p2)]) (fun _ => rfl) hf (fun x1 hf => ?_)
  refine g_iconst O dX6_apartFrom_13 (0 : Int32) (by decide) ?_
  refine g_istoreP O dX6_apartFrom_14 (by decide) [(4, .int (0 : Int32)), (3, .int x1), (0, .ref (za Z i0)), (1, .ref (za Z i1)), (2, .int p2)] rfl ?_
  refine g_lp hN (fun (a2 : Int32 × Mem) => G Z C a2.2 16 [(4, .int a2.1), (3, .int x1), (0, .ref (za Z i0)), (1, .ref (za Z i1)), (2, .int p2)] []) hf (fun a2 _ hN2 hI2 hX2 hf => ?_)
  unfold sX6_apartFrom_16 at hf
  refine g_iload O dX6_apartFrom_16 0 rfl ?_
  refine g_iload_n O dX6_apartFrom_18 1 rfl rfl ?_
  refine g_icmp_gt 37 O dX6_apartFrom_19 (by decide) hf (fun c3 hf => ?_) (fun c3 hf => ?_)
  · have hf := hX2 _ hf
    refine g_iconst O dX6_apartFrom_37 (1 : Int32) (by decide) ?_
    refine g_istoreP O dX6_apartFrom_38 (by decide) [(4, .int (1 : Int32)), (3, .int x1), (0, .ref (za Z i0)), (1, .ref (za Z i1)), (2, .int p2)] rfl ?_
    refine g_lp hN (fun (a4 : Int32 × Mem) => G Z C a4.2 40 [(4, .int a4.1), (3, .int x1), (0, .ref (za Z i0)), (1, .ref (za Z i1)), (2, .int p2)] []) hf (fun a4 _ hN4 hI4 hX4 hf => ?_)
    unfold sX6_apartFrom_40 at hf
    refine g_iload O dX6_apartFrom_40 0 rfl ?_
    refine g_aload_n O dX6_apartFrom_42 2 rfl rfl ?_
    refine g_iload_n O dX6_apartFrom_43 4 rfl rfl ?_
    obtain ⟨q5, hq5, hf⟩ := k_obd hN4 hf
    refine g_callV (rest := [.int a4.1]) O dX6_apartFrom_44 (ct_X6_lengthOf hZ h0 hq5) vx_RX6_153 h0 rfl rfl (by decide) (Nat.le_of_ble_eq_true rfl) (fun hp6 => ?_)
    change G Z C a4.2 47 [(4, .int a4.1), (3, .int x1), (0, .ref (za Z i0)), (1, .ref (za Z i1)), (2, .int p2)] [.int q5, .int a4.1]
    refine g_icmp_gt 171 O dX6_apartFrom_47 (by decide) hf (fun c7 hf => ?_) (fun c7 hf => ?_)
    · have hf := hX4 _ hf
      refine g_aload_n O dX6_apartFrom_171 2 rfl rfl ?_
      refine g_getR O dX6_apartFrom_172 fx_RX6_27 h0 ?_
      refine g_iload_n O dX6_apartFrom_175 1 rfl rfl ?_
      refine g_iald O hN dX6_apartFrom_176 (kf_6_4 h0) hf (fun hf => ?_)
      exact hR _ _ hf _ _ dX6_apartFrom_177
    · refine g_aload_n O dX6_apartFrom_50 3 rfl rfl ?_
      refine g_aload_n O dX6_apartFrom_51 2 rfl rfl ?_
      refine g_iload_n O dX6_apartFrom_52 4 rfl rfl ?_
      obtain ⟨q8, hq8, hf⟩ := k_obd hN4 hf
      refine g_callV (rest := [.ref (za Z i1)]) O dX6_apartFrom_53 (ct_X6_startOf hZ h0 hq8) vx_RX6_156 h0 rfl rfl (by decide) (Nat.le_of_ble_eq_true rfl) (fun hp9 => ?_)
      change G Z C a4.2 56 [(4, .int a4.1), (3, .int x1), (0, .ref (za Z i0)), (1, .ref (za Z i1)), (2, .int p2)] [.int q8, .ref (za Z i1)]
      refine g_iload O dX6_apartFrom_56 0 rfl ?_
      refine g_iadd O dX6_apartFrom_58 ?_
      refine g_iconst O dX6_apartFrom_59 (1 : Int32) (by decide) ?_
      refine g_isub O dX6_apartFrom_60 ?_
      obtain ⟨q10, hq10, hf⟩ := k_obd hN4 hf
      refine g_callV (rest := []) O dX6_apartFrom_61 (ct_X5_at hZ h1 hq10) vx_RX6_76 h1 rfl rfl (by decide) (Nat.le_of_ble_eq_true rfl) (fun hp11 => ?_)
      change G Z C a4.2 64 [(4, .int a4.1), (3, .int x1), (0, .ref (za Z i0)), (1, .ref (za Z i1)), (2, .int p2)] [.int q10]
      refine g_istoreP O dX6_apartFrom_64 (by decide) [(5, .int q10), (4, .int a4.1), (3, .int x1), (0, .ref (za Z i0)), (1, .ref (za Z i1)), (2, .int p2)] rfl ?_
      refine g_aload_n O dX6_apartFrom_66 3 rfl rfl ?_
      refine g_getR O dX6_apartFrom_67 fx_RX6_27 h0 ?_
      refine g_iconst O dX6_apartFrom_70 (0 : Int32) (by decide) ?_
      refine g_iald O hN4 dX6_apartFrom_71 (kf_6_4 h0) hf (fun hf => ?_)
      refine g_istore O dX6_apartFrom_72 (by decide) (fun y => [(6, .int y), (5, .int q10), (4, .int a4.1), (3, .int x1), (0, .ref (za Z i0)), (1, .ref (za Z i1)), (2, .int p2)]) (fun _ => rfl) hf (fun x12 hf => ?_)
      refine g_aload_n O dX6_apartFrom_74 4 rfl rfl ?_
      refine g_getR O dX6_apartFrom_75 fx_RX6_27 h0 ?_
      refine g_iconst O dX6_apartFrom_78 (0 : Int32) (by decide) ?_
      refine g_iload O dX6_apartFrom_79 2 rfl ?_
      refine g_iast O hN4 dX6_apartFrom_81 (kf_6_4 h0) hf (fun m13 hf => ?_)
      refine g_iconst O dX6_apartFrom_82 (1 : Int32) (by decide) ?_
      refine g_istoreP O dX6_apartFrom_83 (by decide) [(7, .int (1 : Int32)), (6, .int x12), (5, .int q10), (4, .int a4.1), (3, .int x1), (0, .ref (za Z i0)), (1, .ref (za Z i1)), (2, .int p2)] rfl ?_
      refine g_lp hN4 (fun (a14 : Int32 × Int32 × Mem) => G Z C a14.2.2 85 [(7, .int a14.1), (6, .int a14.2.1), (5, .int q10), (4, .int a4.1), (3, .int x1), (0, .ref (za Z i0)), (1, .ref (za Z i1)), (2, .int p2)] []) hf (fun a14 _ hN14 hI14 hX14 hf => ?_)
      unfold sX6_apartFrom_85 at hf
      refine g_iload O dX6_apartFrom_85 0 rfl ?_
      refine g_iload_n O dX6_apartFrom_87 4 rfl rfl ?_
      refine g_icmp_gt 165 O dX6_apartFrom_88 (by decide) hf (fun c15 hf => ?_) (fun c15 hf => ?_)
      · have hf := hX14 _ hf
        refine g_iinc O dX6_apartFrom_165 3 rfl (by decide) (1) (by decide) (fun y => [(4, .int y), (7, .int a14.1), (6, .int a14.2.1), (5, .int q10), (3, .int x1), (0, .ref (za Z i0)), (1, .ref (za Z i1)), (2, .int p2)]) (fun _ => rfl) hf (fun x16 hf => ?_)
        refine g_goto 40 O dX6_apartFrom_168 (by decide) ?_
        refine g_sub [0, 4, 5, 6, 7] rfl ?_
        exact hI4 _ hf
      · refine g_iload O dX6_apartFrom_91 1 rfl ?_
        refine g_aload_n O dX6_apartFrom_93 5 rfl rfl ?_
        refine g_getR O dX6_apartFrom_94 fx_RX6_14 h0 ?_
        refine g_iload O dX6_apartFrom_97 0 rfl ?_
        refine g_iconst O dX6_apartFrom_99 (1 : Int32) (by decide) ?_
        refine g_isub O dX6_apartFrom_100 ?_
        obtain ⟨q17, hq17, hf⟩ := k_obd hN14 hf
        refine g_callV (rest := [.int a14.2.1]) O dX6_apartFrom_101 (ct_X5_at hZ (kf_6_0 h0) hq17) vx_RX6_76 (kf_6_0 h0) rfl rfl (by decide) (Nat.le_of_ble_eq_true rfl) (fun hp18 => ?_)
        change G Z C a14.2.2 104 [(7, .int a14.1), (6, .int a14.2.1), (5, .int q10), (4, .int a4.1), (3, .int x1), (0, .ref (za Z i0)), (1, .ref (za Z i1)), (2, .int p2)] [.int q17, .int a14.2.1]
        refine g_iload O dX6_apartFrom_104 2 rfl ?_
        refine g_jn (fun (y19 : Int32) => G Z C a14.2.2 114 [(7, .int a14.1), (5, .int q10), (4, .int a4.1), (3, .int x1), (0, .ref (za Z i0)), (1, .ref (za Z i1)), (2, .int p2)] [.int y19, .int a14.2.1]) hf (fun y19 hf => ?_) (fun k19 hk19 hf => ?_)
        · refine g_iadd O dX6_apartFrom_114 ?_
          refine g_istore O dX6_apartFrom_115 (by decide) (fun y => [(8, .int y), (7, .int a14.1), (5, .int q10), (4, .int a4.1), (3, .int x1), (0, .ref (za Z i0)), (1, .ref (za Z i1)), (2, .int p2)]) (fun _ => rfl) hf (fun x20 hf => ?_)
          refine g_aload_n O dX6_apartFrom_117 5 rfl rfl ?_
          refine g_getR O dX6_apartFrom_118 fx_RX6_27 h0 ?_
          refine g_iload O dX6_apartFrom_121 1 rfl ?_
          refine g_iald O hN14 dX6_apartFrom_123 (kf_6_4 h0) hf (fun hf => ?_)
          refine g_istore O dX6_apartFrom_124 (by decide) (fun y => [(6, .int y), (8, .int x20), (7, .int a14.1), (5, .int q10), (4, .int a4.1), (3, .int x1), (0, .ref (za Z i0)), (1, .ref (za Z i1)), (2, .int p2)]) (fun _ => rfl) hf (fun x21 hf => ?_)
          refine g_aload_n O dX6_apartFrom_126 6 rfl rfl ?_
          refine g_getR O dX6_apartFrom_127 fx_RX6_27 h0 ?_
          refine g_iload O dX6_apartFrom_130 2 rfl ?_
          refine g_iload O dX6_apartFrom_132 1 rfl ?_
          refine g_aload_n O dX6_apartFrom_134 6 rfl rfl ?_
          refine g_getR O dX6_apartFrom_135 fx_RX6_27 h0 ?_
          refine g_iload O dX6_apartFrom_138 2 rfl ?_
          refine g_iconst O dX6_apartFrom_140 (1 : Int32) (by decide) ?_
          refine g_isub O dX6_apartFrom_141 ?_
          refine g_iald O hN14 dX6_apartFrom_142 (kf_6_4 h0) hf (fun hf => ?_)
          refine g_aload_n O dX6_apartFrom_143 6 rfl rfl ?_
          refine g_getR O dX6_apartFrom_144 fx_RX6_27 h0 ?_
          refine g_iload O dX6_apartFrom_147 2 rfl ?_
          refine g_iald O hN14 dX6_apartFrom_149 (kf_6_4 h0) hf (fun hf => ?_)
          refine g_mmin O dX6_apartFrom_150 lm_RX6_127 mm_min.1 mm_min.2.1 mm_min.2.2 (by decide) (Nat.le_of_ble_eq_true rfl) ?_
          refine g_iconst O dX6_apartFrom_153 (1 : Int32) (by decide) ?_
          refine g_iadd O dX6_apartFrom_154 ?_
          refine g_mmin O dX6_apartFrom_155 lm_RX6_127 mm_min.1 mm_min.2.1 mm_min.2.2 (by decide) (Nat.le_of_ble_eq_true rfl) ?_
          refine g_iast O hN14 dX6_apartFrom_158 (kf_6_4 h0) hf (fun m22 hf => ?_)
          refine g_iinc O dX6_apartFrom_159 2 rfl (by decide) (1) (by decide) (fun y => [(7, .int y), (6, .int x21), (8, .int x20), (5, .int q10), (4, .int a4.1), (3, .int x1), (0, .ref (za Z i0)), (1, .ref (za Z i1)), (2, .int p2)]) (fun _ => rfl) hf (fun x23 hf => ?_)
          refine g_goto 85 O dX6_apartFrom_162 (by decide) ?_
          refine g_sub [0, 1, 3, 4, 5, 6, 7, 8] rfl ?_
          exact hI14 _ hf
        · skip
          refine g_icmp_ne 113 O dX6_apartFrom_106 (by decide) hf (fun c24 hf => ?_) (fun c24 hf => ?_)
          · refine g_iconst O dX6_apartFrom_109 (0 : Int32) (by decide) ?_
            refine g_goto 114 O dX6_apartFrom_110 (by decide) ?_
            refine g_sub [0, 2, 3, 4, 5, 6, 7] rfl ?_
            exact hk19 _ hf
          · refine g_iconst O dX6_apartFrom_113 (1 : Int32) (by decide) ?_
            refine g_sub [0, 2, 3, 4, 5, 6, 7] rfl ?_
            exact hk19 _ hf
  · refine g_aload_n O dX6_apartFrom_22 2 rfl rfl ?_
    refine g_getR O dX6_apartFrom_23 fx_RX6_27 h0 ?_
    refine g_iload O dX6_apartFrom_26 0 rfl ?_
    refine g_iload O dX6_apartFrom_28 0 rfl ?_
    refine g_iast O hN2 dX6_apartFrom_30 (kf_6_4 h0) hf (fun m25 hf => ?_)
    refine g_iinc O dX6_apartFrom_31 0 rfl (by decide) (1) (by decide) (fun y => [(4, .int y), (3, .int x1), (0, .ref (za Z i0)), (1, .ref (za Z i1)), (2, .int p2)]) (fun _ => rfl) hf (fun x26 hf => ?_)
    refine g_goto 16 O dX6_apartFrom_34 (by decide) ?_
    exact hI2 _ hf

set_option maxHeartbeats 4000000 in
set_option maxRecDepth 100000 in
theorem ct_X6_farnessOfHole {Z : ZT} (hZ : ZOk Z) {σ : Mem} {i0 : Nat} {i1 : Nat} {i2 : Nat} {i3 : Nat} {p4 : Int32} {p5 : Int32} (h0 : kn i0 = 6) (h1 : kn i1 = 0) (h2 : kn i2 = 5) (h3 : kn i3 = 3) {r : (Int32 × Mem)} (hf : fX6_farnessOfHole σ i0 i1 i2 i3 p4 p5 = some r) : Ct Z yX6_farnessOfHole cX6_farnessOfHole 10 (some .int) 3 89 [.ref (za Z i0), .ref (za Z i1), .ref (za Z i2), .ref (za Z i3), .int p4, .int p5] σ (some (.int r.1)) True r.2 := by
  refine ct_im hZ (by decide +kernel) (Nat.le_of_ble_eq_true rfl) hf (fun C K O hN hR hf => ?_)
  have O : Ok Z C RX6 cX6_farnessOfHole 10 3 89 := O
  change G Z C σ 0 [(0, .ref (za Z i0)), (1, .ref (za Z i1)), (2, .ref (za Z i2)), (3, .ref (za Z i3)), (4, .int p4), (5, .int p5)] []
  unfold fX6_farnessOfHole at hf
  refine g_ldc O dX6_farnessOfHole_0 lc_RX6_65 ?_
  refine g_istoreP O dX6_farnessOfHole_2 (by decide) [(6, .int (1000000 : Int32)), (0, .ref (za Z i0)), (1, .ref (za Z i1)), (2, .ref (za Z i2)), (3, .ref (za Z i3)), (4, .int p4), (5, .int p5)] rfl ?_
  refine g_iload O dX6_farnessOfHole_4 6 rfl ?_
  refine g_aload_n O dX6_farnessOfHole_6 4 rfl rfl ?_
  refine g_iload O dX6_farnessOfHole_7 5 rfl ?_
  obtain ⟨q1, hq1, hf⟩ := k_obd hN hf
  refine g_callV (rest := [.int p5]) O dX6_farnessOfHole_9 (ct_X3_caseOf hZ h3 hq1) vx_RX6_93 h3 rfl rfl (by decide) (Nat.le_of_ble_eq_true rfl) (fun hp2 => ?_)
  change G Z C σ 12 [(6, .int (1000000 : Int32)), (0, .ref (za Z i0)), (1, .ref (za Z i1)), (2, .ref (za Z i2)), (3, .ref (za Z i3)), (4, .int p4), (5, .int p5)] [.int q1, .int p5]
  refine g_iconst O dX6_farnessOfHole_12 (0 : Int32) (by decide) ?_
  refine g_mmax O dX6_farnessOfHole_13 lm_RX6_96 mm_max.1 mm_max.2.1 mm_max.2.2 (by decide) (Nat.le_of_ble_eq_true rfl) ?_
  refine g_iadd O dX6_farnessOfHole_16 ?_
  refine g_istore O dX6_farnessOfHole_17 (by decide) (fun y => [(7, .int y), (6, .int (1000000 : Int32)), (0, .ref (za Z i0)), (1, .ref (za Z i1)), (2, .ref (za Z i2)), (3, .ref (za Z i3)), (4, .int p4), (5, .int p5)]) (fun _ => rfl) hf (fun x3 hf => ?_)
  refine g_iconst O dX6_farnessOfHole_19 (0 : Int32) (by decide) ?_
  refine g_istoreP O dX6_farnessOfHole_20 (by decide) [(8, .int (0 : Int32)), (7, .int x3), (6, .int (1000000 : Int32)), (0, .ref (za Z i0)), (1, .ref (za Z i1)), (2, .ref (za Z i2)), (3, .ref (za Z i3)), (4, .int p4), (5, .int p5)] rfl ?_
  refine g_lp hN (fun (a4 : Int32 × Int32 × Mem) => G Z C a4.2.2 22 [(8, .int a4.1), (7, .int x3), (6, .int a4.2.1), (0, .ref (za Z i0)), (1, .ref (za Z i1)), (2, .ref (za Z i2)), (3, .ref (za Z i3)), (4, .int p4), (5, .int p5)] []) hf (fun a4 _ hN4 hI4 hX4 hf => ?_)
  unfold sX6_farnessOfHole_22 at hf
  refine g_iload O dX6_farnessOfHole_22 0 rfl ?_
  refine g_aload_n O dX6_farnessOfHole_24 4 rfl rfl ?_
  refine g_getI O dX6_farnessOfHole_25 fx_RX6_102 h1 ?_
  refine g_icmp_ge 89 O dX6_farnessOfHole_28 (by decide) hf (fun c5 hf => ?_) (fun c5 hf => ?_)
  · have hf := hX4 _ hf
    refine g_iload O dX6_farnessOfHole_89 2 rfl ?_
    exact hR _ _ hf _ _ dX6_farnessOfHole_91
  · refine g_aload_n O dX6_farnessOfHole_31 4 rfl rfl ?_
    refine g_iload O dX6_farnessOfHole_32 0 rfl ?_
    obtain ⟨q6, hq6, hf⟩ := k_obd hN4 hf
    refine g_callV (rest := []) O dX6_farnessOfHole_34 (ct_X0_wordAt hZ h1 hq6) vx_RX6_105 h1 rfl rfl (by decide) (Nat.le_of_ble_eq_true rfl) (fun hp7 => ?_)
    refine k_ocs hf (fun he hf1 => ?_) (fun w8 he hf1 => ?_)
    · subst he
      have hf := hf1
      change G Z C a4.2.2 37 [(8, .int a4.1), (7, .int x3), (6, .int a4.2.1), (0, .ref (za Z i0)), (1, .ref (za Z i1)), (2, .ref (za Z i2)), (3, .ref (za Z i3)), (4, .int p4), (5, .int p5)] [.null]
      refine g_astoreN O dX6_farnessOfHole_37 (by decide) [(9, .null), (8, .int a4.1), (7, .int x3), (6, .int a4.2.1), (0, .ref (za Z i0)), (1, .ref (za Z i1)), (2, .ref (za Z i2)), (3, .ref (za Z i3)), (4, .int p4), (5, .int p5)] rfl ?_
      refine g_aloadN O dX6_farnessOfHole_39 0 rfl ?_
      refine g_ifnullN 83 O dX6_farnessOfHole_41 (by decide) ?_
      refine g_iinc O dX6_farnessOfHole_83 1 rfl (by decide) (1) (by decide) (fun y => [(8, .int y), (9, .null), (7, .int x3), (6, .int a4.2.1), (0, .ref (za Z i0)), (1, .ref (za Z i1)), (2, .ref (za Z i2)), (3, .ref (za Z i3)), (4, .int p4), (5, .int p5)]) (fun _ => rfl) hf (fun x9 hf => ?_)
      refine g_goto 22 O dX6_farnessOfHole_86 (by decide) ?_
      refine g_sub [0, 2, 3, 4, 5, 6, 7, 8, 9] rfl ?_
      exact hI4 _ hf
    · subst he
      have hf := hf1
      change G Z C a4.2.2 37 [(8, .int a4.1), (7, .int x3), (6, .int a4.2.1), (0, .ref (za Z i0)), (1, .ref (za Z i1)), (2, .ref (za Z i2)), (3, .ref (za Z i3)), (4, .int p4), (5, .int p5)] [.ref (za Z w8)]
      refine g_astoreP O dX6_farnessOfHole_37 (by decide) [(9, .ref (za Z w8)), (8, .int a4.1), (7, .int x3), (6, .int a4.2.1), (0, .ref (za Z i0)), (1, .ref (za Z i1)), (2, .ref (za Z i2)), (3, .ref (za Z i3)), (4, .int p4), (5, .int p5)] rfl ?_
      refine g_aload O dX6_farnessOfHole_39 0 rfl ?_
      refine g_ifnullR O dX6_farnessOfHole_41 ?_
      refine g_aload_n O dX6_farnessOfHole_44 7 rfl rfl ?_
      refine g_iload O dX6_farnessOfHole_45 8 rfl ?_
      refine g_aload O dX6_farnessOfHole_47 0 rfl ?_
      refine g_iload O dX6_farnessOfHole_49 9 rfl ?_
      obtain ⟨q10, hq10, hf⟩ := k_obd hN4 hf
      refine g_callS (rest := []) O dX6_farnessOfHole_51 (ct_X6_fits hZ h3 (hp7 _ rfl) hq10) sx_RX6_109 rfl rfl (by decide) (Nat.le_of_ble_eq_true rfl) (fun hp11 => ?_)
      change G Z C a4.2.2 54 [(9, .ref (za Z w8)), (8, .int a4.1), (7, .int x3), (6, .int a4.2.1), (0, .ref (za Z i0)), (1, .ref (za Z i1)), (2, .ref (za Z i2)), (3, .ref (za Z i3)), (4, .int p4), (5, .int p5)] [.int q10]
      refine g_if_eq 83 O dX6_farnessOfHole_54 (by decide) hf (fun c12 hf => ?_) (fun c12 hf => ?_)
      · refine g_iinc O dX6_farnessOfHole_83 1 rfl (by decide) (1) (by decide) (fun y => [(8, .int y), (9, .ref (za Z w8)), (7, .int x3), (6, .int a4.2.1), (0, .ref (za Z i0)), (1, .ref (za Z i1)), (2, .ref (za Z i2)), (3, .ref (za Z i3)), (4, .int p4), (5, .int p5)]) (fun _ => rfl) hf (fun x13 hf => ?_)
        refine g_goto 22 O dX6_farnessOfHole_86 (by decide) ?_
        refine g_sub [0, 2, 3, 4, 5, 6, 7, 8, 9] rfl ?_
        exact hI4 _ hf
      · refine g_aload_n O dX6_farnessOfHole_57 5 rfl rfl ?_
        refine g_aload O dX6_farnessOfHole_58 0 rfl ?_
        refine g_iload O dX6_farnessOfHole_60 2 rfl ?_
        refine g_aload_n O dX6_farnessOfHole_62 4 rfl rfl ?_
        refine g_getR O dX6_farnessOfHole_63 fx_RX6_14 h0 ?_
        obtain ⟨q14, hq14, hf⟩ := k_obd hN4 hf
        refine g_callV (rest := []) O dX6_farnessOfHole_66 (ct_X0_spell hZ h1 (hp7 _ rfl) (kf_6_0 h0) hq14) vx_RX6_113 h1 rfl rfl (by decide) (Nat.le_of_ble_eq_true rfl) (fun hp15 => ?_)
        change G Z C q14 69 [(9, .ref (za Z w8)), (8, .int a4.1), (7, .int x3), (6, .int a4.2.1), (0, .ref (za Z i0)), (1, .ref (za Z i1)), (2, .ref (za Z i2)), (3, .ref (za Z i3)), (4, .int p4), (5, .int p5)] []
        refine g_iload O dX6_farnessOfHole_69 3 rfl ?_
        refine g_aload_n O dX6_farnessOfHole_71 4 rfl rfl ?_
        refine g_aload_n O dX6_farnessOfHole_72 6 rfl rfl ?_
        refine g_iload O dX6_farnessOfHole_73 8 rfl ?_
        obtain ⟨q16, hq16, hf⟩ := k_obd hN4 hf
        refine g_callV (rest := [.int a4.2.1]) O dX6_farnessOfHole_75 (ct_X6_apartFrom hZ h0 h2 hq16) vx_RX6_130 h0 rfl rfl (by decide) (Nat.le_of_ble_eq_true rfl) (fun hp17 => ?_)
        change G Z C q16.2 78 [(9, .ref (za Z w8)), (8, .int a4.1), (7, .int x3), (6, .int a4.2.1), (0, .ref (za Z i0)), (1, .ref (za Z i1)), (2, .ref (za Z i2)), (3, .ref (za Z i3)), (4, .int p4), (5, .int p5)] [.int q16.1, .int a4.2.1]
        refine g_mmin O dX6_farnessOfHole_78 lm_RX6_127 mm_min.1 mm_min.2.1 mm_min.2.2 (by decide) (Nat.le_of_ble_eq_true rfl) ?_
        refine g_istore O dX6_farnessOfHole_81 (by decide) (fun y => [(6, .int y), (9, .ref (za Z w8)), (8, .int a4.1), (7, .int x3), (0, .ref (za Z i0)), (1, .ref (za Z i1)), (2, .ref (za Z i2)), (3, .ref (za Z i3)), (4, .int p4), (5, .int p5)]) (fun _ => rfl) hf (fun x18 hf => ?_)
        refine g_iinc O dX6_farnessOfHole_83 2 rfl (by decide) (1) (by decide) (fun y => [(8, .int y), (6, .int x18), (9, .ref (za Z w8)), (7, .int x3), (0, .ref (za Z i0)), (1, .ref (za Z i1)), (2, .ref (za Z i2)), (3, .ref (za Z i3)), (4, .int p4), (5, .int p5)]) (fun _ => rfl) hf (fun x19 hf => ?_)
        refine g_goto 22 O dX6_farnessOfHole_86 (by decide) ?_
        refine g_sub [0, 3, 1, 4, 5, 6, 7, 8, 9] rfl ?_
        exact hI4 _ hf

set_option maxHeartbeats 4000000 in
set_option maxRecDepth 100000 in
theorem ct_X6_farnessOfGroup {Z : ZT} (hZ : ZOk Z) {σ : Mem} {i0 : Nat} {i1 : Nat} {i2 : Nat} {i3 : Nat} {p4 : Int32} {p5 : Int32} (h0 : kn i0 = 6) (h1 : kn i1 = 0) (h2 : kn i2 = 5) (h3 : kn i3 = 3) {r : (Int32 × Mem)} (hf : fX6_farnessOfGroup σ i0 i1 i2 i3 p4 p5 = some r) : Ct Z yX6_farnessOfGroup cX6_farnessOfGroup 10 (some .int) 4 118 [.ref (za Z i0), .ref (za Z i1), .ref (za Z i2), .ref (za Z i3), .int p4, .int p5] σ (some (.int r.1)) True r.2 := by
  refine ct_im hZ (by decide +kernel) (Nat.le_of_ble_eq_true rfl) hf (fun C K O hN hR hf => ?_)
  have O : Ok Z C RX6 cX6_farnessOfGroup 10 4 118 := O
  change G Z C σ 0 [(0, .ref (za Z i0)), (1, .ref (za Z i1)), (2, .ref (za Z i2)), (3, .ref (za Z i3)), (4, .int p4), (5, .int p5)] []
  unfold fX6_farnessOfGroup at hf
  refine g_ldc O dX6_farnessOfGroup_0 lc_RX6_65 ?_
  refine g_istoreP O dX6_farnessOfGroup_2 (by decide) [(6, .int (1000000 : Int32)), (0, .ref (za Z i0)), (1, .ref (za Z i1)), (2, .ref (za Z i2)), (3, .ref (za Z i3)), (4, .int p4), (5, .int p5)] rfl ?_
  refine g_iload O dX6_farnessOfGroup_4 6 rfl ?_
  refine g_bipush O dX6_farnessOfGroup_6 (24 : Int32) (by decide) ?_
  refine g_imul O dX6_farnessOfGroup_8 ?_
  refine g_istore O dX6_farnessOfGroup_9 (by decide) (fun y => [(7, .int y), (6, .int (1000000 : Int32)), (0, .ref (za Z i0)), (1, .ref (za Z i1)), (2, .ref (za Z i2)), (3, .ref (za Z i3)), (4, .int p4), (5, .int p5)]) (fun _ => rfl) hf (fun x1 hf => ?_)
  refine g_lp hN (fun (a2 : Int32 × Int32 × Mem) => G Z C a2.2.2 11 [(7, .int a2.1), (6, .int a2.2.1), (0, .ref (za Z i0)), (1, .ref (za Z i1)), (2, .ref (za Z i2)), (3, .ref (za Z i3)), (4, .int p4), (5, .int p5)] []) hf (fun a2 _ hN2 hI2 hX2 hf => ?_)
  unfold sX6_farnessOfGroup_11 at hf
  refine g_iload O dX6_farnessOfGroup_11 0 rfl ?_
  refine g_iload O dX6_farnessOfGroup_13 7 rfl ?_
  refine g_iconst O dX6_farnessOfGroup_15 (1 : Int32) (by decide) ?_
  refine g_iadd O dX6_farnessOfGroup_16 ?_
  refine g_bipush O dX6_farnessOfGroup_17 (24 : Int32) (by decide) ?_
  refine g_imul O dX6_farnessOfGroup_19 ?_
  refine g_icmp_ge 97 O dX6_farnessOfGroup_20 (by decide) hf (fun c3 hf => ?_) (fun c3 hf => ?_)
  · have hf := hX2 _ hf
    refine g_iload O dX6_farnessOfGroup_97 1 rfl ?_
    exact hR _ _ hf _ _ dX6_farnessOfGroup_99
  · refine g_iconst O dX6_farnessOfGroup_23 (0 : Int32) (by decide) ?_
    refine g_istoreP O dX6_farnessOfGroup_24 (by decide) [(8, .int (0 : Int32)), (7, .int a2.1), (6, .int a2.2.1), (0, .ref (za Z i0)), (1, .ref (za Z i1)), (2, .ref (za Z i2)), (3, .ref (za Z i3)), (4, .int p4), (5, .int p5)] rfl ?_
    refine g_iconst O dX6_farnessOfGroup_26 (0 : Int32) (by decide) ?_
    refine g_istoreP O dX6_farnessOfGroup_27 (by decide) [(9, .int (0 : Int32)), (8, .int (0 : Int32)), (7, .int a2.1), (6, .int a2.2.1), (0, .ref (za Z i0)), (1, .ref (za Z i1)), (2, .ref (za Z i2)), (3, .ref (za Z i3)), (4, .int p4), (5, .int p5)] rfl ?_
    refine g_lp hN2 (fun (a4 : Int32 × Int32 × Mem) => G Z C a4.2.2 29 [(9, .int a4.1), (8, .int a4.2.1), (7, .int a2.1), (6, .int a2.2.1), (0, .ref (za Z i0)), (1, .ref (za Z i1)), (2, .ref (za Z i2)), (3, .ref (za Z i3)), (4, .int p4), (5, .int p5)] []) hf (fun a4 _ hN4 hI4 hX4 hf => ?_)
    unfold sX6_farnessOfGroup_29 at hf
    refine g_iload O dX6_farnessOfGroup_29 0 rfl ?_
    refine g_aload_n O dX6_farnessOfGroup_31 7 rfl rfl ?_
    refine g_getI O dX6_farnessOfGroup_32 fx_RX6_53 h3 ?_
    refine g_jn (fun (y5 : Unit) => G Z C a4.2.2 82 [(8, .int a4.2.1), (7, .int a2.1), (6, .int a2.2.1), (0, .ref (za Z i0)), (1, .ref (za Z i1)), (2, .ref (za Z i2)), (3, .ref (za Z i3)), (4, .int p4), (5, .int p5)] []) hf (fun y5 hf => ?_) (fun k5 hk5 hf => ?_)
    · have hf := hX4 _ hf
      refine g_iload O dX6_farnessOfGroup_82 2 rfl ?_
      refine g_iload O dX6_farnessOfGroup_84 0 rfl ?_
      refine g_mmin O dX6_farnessOfGroup_86 lm_RX6_127 mm_min.1 mm_min.2.1 mm_min.2.2 (by decide) (Nat.le_of_ble_eq_true rfl) ?_
      refine g_istore O dX6_farnessOfGroup_89 (by decide) (fun y => [(6, .int y), (8, .int a4.2.1), (7, .int a2.1), (0, .ref (za Z i0)), (1, .ref (za Z i1)), (2, .ref (za Z i2)), (3, .ref (za Z i3)), (4, .int p4), (5, .int p5)]) (fun _ => rfl) hf (fun x6 hf => ?_)
      refine g_iinc O dX6_farnessOfGroup_91 2 rfl (by decide) (4) (by decide) (fun y => [(7, .int y), (6, .int x6), (8, .int a4.2.1), (0, .ref (za Z i0)), (1, .ref (za Z i1)), (2, .ref (za Z i2)), (3, .ref (za Z i3)), (4, .int p4), (5, .int p5)]) (fun _ => rfl) hf (fun x7 hf => ?_)
      refine g_goto 11 O dX6_farnessOfGroup_94 (by decide) ?_
      refine g_sub [0, 1, 3, 4, 5, 6, 7, 8] rfl ?_
      exact hI2 _ hf
    · skip
      refine g_icmp_ge 82 O dX6_farnessOfGroup_35 (by decide) hf (fun c8 hf => ?_) (fun c8 hf => ?_)
      · refine g_sub [1, 2, 3, 4, 5, 6, 7, 8, 9] rfl ?_
        exact hk5 _ hf
      · refine g_iload O dX6_farnessOfGroup_38 1 rfl ?_
        refine g_iload O dX6_farnessOfGroup_40 3 rfl ?_
        refine g_icmp_ge 82 O dX6_farnessOfGroup_42 (by decide) hf (fun c9 hf => ?_) (fun c9 hf => ?_)
        · refine g_sub [1, 2, 3, 4, 5, 6, 7, 8, 9] rfl ?_
          exact hk5 _ hf
        · refine g_iload O dX6_farnessOfGroup_45 1 rfl ?_
          refine g_aload_n O dX6_farnessOfGroup_47 7 rfl rfl ?_
          refine g_iload O dX6_farnessOfGroup_48 0 rfl ?_
          obtain ⟨q10, hq10, hf⟩ := k_obd hN4 hf
          refine g_callV (rest := [.int a4.2.1]) O dX6_farnessOfGroup_50 (ct_X3_groupOf hZ h3 hq10) vx_RX6_80 h3 rfl rfl (by decide) (Nat.le_of_ble_eq_true rfl) (fun hp11 => ?_)
          change G Z C a4.2.2 53 [(9, .int a4.1), (8, .int a4.2.1), (7, .int a2.1), (6, .int a2.2.1), (0, .ref (za Z i0)), (1, .ref (za Z i1)), (2, .ref (za Z i2)), (3, .ref (za Z i3)), (4, .int p4), (5, .int p5)] [.int q10, .int a4.2.1]
          refine g_iload O dX6_farnessOfGroup_53 8 rfl ?_
          refine g_icmp_ne 72 O dX6_farnessOfGroup_55 (by decide) hf (fun c12 hf => ?_) (fun c12 hf => ?_)
          · refine g_aload_n O dX6_farnessOfGroup_58 4 rfl rfl ?_
            refine g_aload_n O dX6_farnessOfGroup_59 5 rfl rfl ?_
            refine g_aload_n O dX6_farnessOfGroup_60 6 rfl rfl ?_
            refine g_aload_n O dX6_farnessOfGroup_61 7 rfl rfl ?_
            refine g_iload O dX6_farnessOfGroup_62 0 rfl ?_
            refine g_iload O dX6_farnessOfGroup_64 2 rfl ?_
            obtain ⟨q13, hq13, hf⟩ := k_obd hN4 hf
            refine g_callV (rest := [.int a4.2.1]) O dX6_farnessOfGroup_66 (ct_X6_farnessOfHole hZ h0 h1 h2 h3 hq13) vx_RX6_121 h0 rfl rfl (by decide) (Nat.le_of_ble_eq_true rfl) (fun hp14 => ?_)
            change G Z C q13.2 69 [(9, .int a4.1), (8, .int a4.2.1), (7, .int a2.1), (6, .int a2.2.1), (0, .ref (za Z i0)), (1, .ref (za Z i1)), (2, .ref (za Z i2)), (3, .ref (za Z i3)), (4, .int p4), (5, .int p5)] [.int q13.1, .int a4.2.1]
            refine g_goto 73 O dX6_farnessOfGroup_69 (by decide) ?_
            refine g_iadd O dX6_farnessOfGroup_73 ?_
            refine g_istore O dX6_farnessOfGroup_74 (by decide) (fun y => [(8, .int y), (9, .int a4.1), (7, .int a2.1), (6, .int a2.2.1), (0, .ref (za Z i0)), (1, .ref (za Z i1)), (2, .ref (za Z i2)), (3, .ref (za Z i3)), (4, .int p4), (5, .int p5)]) (fun _ => rfl) hf (fun x15 hf => ?_)
            refine g_iinc O dX6_farnessOfGroup_76 1 rfl (by decide) (1) (by decide) (fun y => [(9, .int y), (8, .int x15), (7, .int a2.1), (6, .int a2.2.1), (0, .ref (za Z i0)), (1, .ref (za Z i1)), (2, .ref (za Z i2)), (3, .ref (za Z i3)), (4, .int p4), (5, .int p5)]) (fun _ => rfl) hf (fun x16 hf => ?_)
            refine g_goto 29 O dX6_farnessOfGroup_79 (by decide) ?_
            exact hI4 _ hf
          · refine g_iconst O dX6_farnessOfGroup_72 (0 : Int32) (by decide) ?_
            refine g_iadd O dX6_farnessOfGroup_73 ?_
            refine g_istore O dX6_farnessOfGroup_74 (by decide) (fun y => [(8, .int y), (9, .int a4.1), (7, .int a2.1), (6, .int a2.2.1), (0, .ref (za Z i0)), (1, .ref (za Z i1)), (2, .ref (za Z i2)), (3, .ref (za Z i3)), (4, .int p4), (5, .int p5)]) (fun _ => rfl) hf (fun x17 hf => ?_)
            refine g_iinc O dX6_farnessOfGroup_76 1 rfl (by decide) (1) (by decide) (fun y => [(9, .int y), (8, .int x17), (7, .int a2.1), (6, .int a2.2.1), (0, .ref (za Z i0)), (1, .ref (za Z i1)), (2, .ref (za Z i2)), (3, .ref (za Z i3)), (4, .int p4), (5, .int p5)]) (fun _ => rfl) hf (fun x18 hf => ?_)
            refine g_goto 29 O dX6_farnessOfGroup_79 (by decide) ?_
            exact hI4 _ hf

set_option maxHeartbeats 4000000 in
set_option maxRecDepth 100000 in
theorem ct_X6_farnessOfFrame {Z : ZT} (hZ : ZOk Z) {σ : Mem} {i0 : Nat} {i1 : Nat} {i2 : Nat} {i3 : Nat} {p4 : Int32} (h0 : kn i0 = 6) (h1 : kn i1 = 0) (h2 : kn i2 = 5) (h3 : kn i3 = 3) {r : (Int32 × Mem)} (hf : fX6_farnessOfFrame σ i0 i1 i2 i3 p4 = some r) : Ct Z yX6_farnessOfFrame cX6_farnessOfFrame 7 (some .int) 5 147 [.ref (za Z i0), .ref (za Z i1), .ref (za Z i2), .ref (za Z i3), .int p4] σ (some (.int r.1)) True r.2 := by
  refine ct_im hZ (by decide +kernel) (Nat.le_of_ble_eq_true rfl) hf (fun C K O hN hR hf => ?_)
  have O : Ok Z C RX6 cX6_farnessOfFrame 7 5 147 := O
  change G Z C σ 0 [(0, .ref (za Z i0)), (1, .ref (za Z i1)), (2, .ref (za Z i2)), (3, .ref (za Z i3)), (4, .int p4)] []
  unfold fX6_farnessOfFrame at hf
  refine g_iconst O dX6_farnessOfFrame_0 (0 : Int32) (by decide) ?_
  refine g_istoreP O dX6_farnessOfFrame_1 (by decide) [(5, .int (0 : Int32)), (0, .ref (za Z i0)), (1, .ref (za Z i1)), (2, .ref (za Z i2)), (3, .ref (za Z i3)), (4, .int p4)] rfl ?_
  refine g_iconst O dX6_farnessOfFrame_3 (0 : Int32) (by decide) ?_
  refine g_istoreP O dX6_farnessOfFrame_4 (by decide) [(6, .int (0 : Int32)), (5, .int (0 : Int32)), (0, .ref (za Z i0)), (1, .ref (za Z i1)), (2, .ref (za Z i2)), (3, .ref (za Z i3)), (4, .int p4)] rfl ?_
  refine g_lp hN (fun (a1 : Int32 × Int32 × Mem) => G Z C a1.2.2 6 [(6, .int a1.1), (5, .int a1.2.1), (0, .ref (za Z i0)), (1, .ref (za Z i1)), (2, .ref (za Z i2)), (3, .ref (za Z i3)), (4, .int p4)] []) hf (fun a1 _ hN1 hI1 hX1 hf => ?_)
  unfold sX6_farnessOfFrame_6 at hf
  refine g_iload O dX6_farnessOfFrame_6 0 rfl ?_
  refine g_aload_n O dX6_farnessOfFrame_8 5 rfl rfl ?_
  refine g_getI O dX6_farnessOfFrame_9 fx_RX6_53 h3 ?_
  refine g_icmp_ge 50 O dX6_farnessOfFrame_12 (by decide) hf (fun c2 hf => ?_) (fun c2 hf => ?_)
  · have hf := hX1 _ hf
    refine g_iconst O dX6_farnessOfFrame_50 (0 : Int32) (by decide) ?_
    refine g_istoreP O dX6_farnessOfFrame_51 (by decide) [(6, .int (0 : Int32)), (5, .int a1.2.1), (0, .ref (za Z i0)), (1, .ref (za Z i1)), (2, .ref (za Z i2)), (3, .ref (za Z i3)), (4, .int p4)] rfl ?_
    refine g_lp hN (fun (a3 : Int32 × Int32 × Mem) => G Z C a3.2.2 53 [(6, .int a3.1), (5, .int a3.2.1), (0, .ref (za Z i0)), (1, .ref (za Z i1)), (2, .ref (za Z i2)), (3, .ref (za Z i3)), (4, .int p4)] []) hf (fun a3 _ hN3 hI3 hX3 hf => ?_)
    unfold sX6_farnessOfFrame_53 at hf
    refine g_iload O dX6_farnessOfFrame_53 0 rfl ?_
    refine g_iconst O dX6_farnessOfFrame_55 (3 : Int32) (by decide) ?_
    refine g_icmp_ge 95 O dX6_farnessOfFrame_56 (by decide) hf (fun c4 hf => ?_) (fun c4 hf => ?_)
    · have hf := hX3 _ hf
      refine g_iload O dX6_farnessOfFrame_95 1 rfl ?_
      exact hR _ _ hf _ _ dX6_farnessOfFrame_97
    · refine g_iload O dX6_farnessOfFrame_59 1 rfl ?_
      refine g_aload_n O dX6_farnessOfFrame_61 5 rfl rfl ?_
      refine g_iload O dX6_farnessOfFrame_62 0 rfl ?_
      obtain ⟨q5, hq5, hf⟩ := k_obd hN3 hf
      refine g_callV (rest := [.int a3.2.1]) O dX6_farnessOfFrame_64 (ct_X3_nounOf hZ h3 hq5) vx_RX6_87 h3 rfl rfl (by decide) (Nat.le_of_ble_eq_true rfl) (fun hp6 => ?_)
      change G Z C a3.2.2 67 [(6, .int a3.1), (5, .int a3.2.1), (0, .ref (za Z i0)), (1, .ref (za Z i1)), (2, .ref (za Z i2)), (3, .ref (za Z i3)), (4, .int p4)] [.int q5, .int a3.2.1]
      refine g_iconst O dX6_farnessOfFrame_67 (-1 : Int32) (by decide) ?_
      refine g_icmp_ne 75 O dX6_farnessOfFrame_68 (by decide) hf (fun c7 hf => ?_) (fun c7 hf => ?_)
      · refine g_iconst O dX6_farnessOfFrame_71 (0 : Int32) (by decide) ?_
        refine g_goto 86 O dX6_farnessOfFrame_72 (by decide) ?_
        refine g_iadd O dX6_farnessOfFrame_86 ?_
        refine g_istore O dX6_farnessOfFrame_87 (by decide) (fun y => [(5, .int y), (6, .int a3.1), (0, .ref (za Z i0)), (1, .ref (za Z i1)), (2, .ref (za Z i2)), (3, .ref (za Z i3)), (4, .int p4)]) (fun _ => rfl) hf (fun x8 hf => ?_)
        refine g_iinc O dX6_farnessOfFrame_89 1 rfl (by decide) (1) (by decide) (fun y => [(6, .int y), (5, .int x8), (0, .ref (za Z i0)), (1, .ref (za Z i1)), (2, .ref (za Z i2)), (3, .ref (za Z i3)), (4, .int p4)]) (fun _ => rfl) hf (fun x9 hf => ?_)
        refine g_goto 53 O dX6_farnessOfFrame_92 (by decide) ?_
        exact hI3 _ hf
      · refine g_aload_n O dX6_farnessOfFrame_75 2 rfl rfl ?_
        refine g_aload_n O dX6_farnessOfFrame_76 3 rfl rfl ?_
        refine g_aload_n O dX6_farnessOfFrame_77 4 rfl rfl ?_
        refine g_aload_n O dX6_farnessOfFrame_78 5 rfl rfl ?_
        refine g_iload O dX6_farnessOfFrame_79 0 rfl ?_
        refine g_iload O dX6_farnessOfFrame_81 6 rfl ?_
        obtain ⟨q10, hq10, hf⟩ := k_obd hN3 hf
        refine g_callV (rest := [.int a3.2.1]) O dX6_farnessOfFrame_83 (ct_X6_farnessOfGroup hZ h0 h1 h2 h3 hq10) vx_RX6_124 h0 rfl rfl (by decide) (Nat.le_of_ble_eq_true rfl) (fun hp11 => ?_)
        change G Z C q10.2 86 [(6, .int a3.1), (5, .int a3.2.1), (0, .ref (za Z i0)), (1, .ref (za Z i1)), (2, .ref (za Z i2)), (3, .ref (za Z i3)), (4, .int p4)] [.int q10.1, .int a3.2.1]
        refine g_iadd O dX6_farnessOfFrame_86 ?_
        refine g_istore O dX6_farnessOfFrame_87 (by decide) (fun y => [(5, .int y), (6, .int a3.1), (0, .ref (za Z i0)), (1, .ref (za Z i1)), (2, .ref (za Z i2)), (3, .ref (za Z i3)), (4, .int p4)]) (fun _ => rfl) hf (fun x12 hf => ?_)
        refine g_iinc O dX6_farnessOfFrame_89 1 rfl (by decide) (1) (by decide) (fun y => [(6, .int y), (5, .int x12), (0, .ref (za Z i0)), (1, .ref (za Z i1)), (2, .ref (za Z i2)), (3, .ref (za Z i3)), (4, .int p4)]) (fun _ => rfl) hf (fun x13 hf => ?_)
        refine g_goto 53 O dX6_farnessOfFrame_92 (by decide) ?_
        exact hI3 _ hf
  · refine g_iload O dX6_farnessOfFrame_15 1 rfl ?_
    refine g_aload_n O dX6_farnessOfFrame_17 5 rfl rfl ?_
    refine g_iload O dX6_farnessOfFrame_18 0 rfl ?_
    obtain ⟨q14, hq14, hf⟩ := k_obd hN1 hf
    refine g_callV (rest := [.int a1.2.1]) O dX6_farnessOfFrame_20 (ct_X3_groupOf hZ h3 hq14) vx_RX6_80 h3 rfl rfl (by decide) (Nat.le_of_ble_eq_true rfl) (fun hp15 => ?_)
    change G Z C a1.2.2 23 [(6, .int a1.1), (5, .int a1.2.1), (0, .ref (za Z i0)), (1, .ref (za Z i1)), (2, .ref (za Z i2)), (3, .ref (za Z i3)), (4, .int p4)] [.int q14, .int a1.2.1]
    refine g_iconst O dX6_farnessOfFrame_23 (-1 : Int32) (by decide) ?_
    refine g_icmp_ne 40 O dX6_farnessOfFrame_24 (by decide) hf (fun c16 hf => ?_) (fun c16 hf => ?_)
    · refine g_aload_n O dX6_farnessOfFrame_27 2 rfl rfl ?_
      refine g_aload_n O dX6_farnessOfFrame_28 3 rfl rfl ?_
      refine g_aload_n O dX6_farnessOfFrame_29 4 rfl rfl ?_
      refine g_aload_n O dX6_farnessOfFrame_30 5 rfl rfl ?_
      refine g_iload O dX6_farnessOfFrame_31 0 rfl ?_
      refine g_iconst O dX6_farnessOfFrame_33 (0 : Int32) (by decide) ?_
      obtain ⟨q17, hq17, hf⟩ := k_obd hN1 hf
      refine g_callV (rest := [.int a1.2.1]) O dX6_farnessOfFrame_34 (ct_X6_farnessOfHole hZ h0 h1 h2 h3 hq17) vx_RX6_121 h0 rfl rfl (by decide) (Nat.le_of_ble_eq_true rfl) (fun hp18 => ?_)
      change G Z C q17.2 37 [(6, .int a1.1), (5, .int a1.2.1), (0, .ref (za Z i0)), (1, .ref (za Z i1)), (2, .ref (za Z i2)), (3, .ref (za Z i3)), (4, .int p4)] [.int q17.1, .int a1.2.1]
      refine g_goto 41 O dX6_farnessOfFrame_37 (by decide) ?_
      refine g_iadd O dX6_farnessOfFrame_41 ?_
      refine g_istore O dX6_farnessOfFrame_42 (by decide) (fun y => [(5, .int y), (6, .int a1.1), (0, .ref (za Z i0)), (1, .ref (za Z i1)), (2, .ref (za Z i2)), (3, .ref (za Z i3)), (4, .int p4)]) (fun _ => rfl) hf (fun x19 hf => ?_)
      refine g_iinc O dX6_farnessOfFrame_44 1 rfl (by decide) (1) (by decide) (fun y => [(6, .int y), (5, .int x19), (0, .ref (za Z i0)), (1, .ref (za Z i1)), (2, .ref (za Z i2)), (3, .ref (za Z i3)), (4, .int p4)]) (fun _ => rfl) hf (fun x20 hf => ?_)
      refine g_goto 6 O dX6_farnessOfFrame_47 (by decide) ?_
      exact hI1 _ hf
    · refine g_iconst O dX6_farnessOfFrame_40 (0 : Int32) (by decide) ?_
      refine g_iadd O dX6_farnessOfFrame_41 ?_
      refine g_istore O dX6_farnessOfFrame_42 (by decide) (fun y => [(5, .int y), (6, .int a1.1), (0, .ref (za Z i0)), (1, .ref (za Z i1)), (2, .ref (za Z i2)), (3, .ref (za Z i3)), (4, .int p4)]) (fun _ => rfl) hf (fun x21 hf => ?_)
      refine g_iinc O dX6_farnessOfFrame_44 1 rfl (by decide) (1) (by decide) (fun y => [(6, .int y), (5, .int x21), (0, .ref (za Z i0)), (1, .ref (za Z i1)), (2, .ref (za Z i2)), (3, .ref (za Z i3)), (4, .int p4)]) (fun _ => rfl) hf (fun x22 hf => ?_)
      refine g_goto 6 O dX6_farnessOfFrame_47 (by decide) ?_
      exact hI1 _ hf

set_option maxHeartbeats 4000000 in
set_option maxRecDepth 100000 in
theorem ct_X6_findNearest {Z : ZT} (hZ : ZOk Z) {σ : Mem} {i0 : Nat} {i1 : Nat} {i2 : Nat} (h0 : kn i0 = 6) (h1 : kn i1 = 0) (h2 : kn i2 = 5) {r : Mem} (hf : fX6_findNearest σ i0 i1 i2 = some r) : Ct Z yX6_findNearest cX6_findNearest 6 none 6 173 [.ref (za Z i0), .ref (za Z i1), .ref (za Z i2)] σ none True r := by
  refine ct_v hZ (by decide +kernel) (Nat.le_of_ble_eq_true rfl) hf (fun C K O hN hR hf => ?_)
  have O : Ok Z C RX6 cX6_findNearest 6 6 173 := O
  change G Z C σ 0 [(0, .ref (za Z i0)), (1, .ref (za Z i1)), (2, .ref (za Z i2))] []
  unfold fX6_findNearest at hf
  refine g_aload_n O dX6_findNearest_0 0 rfl rfl ?_
  refine g_aload_n O dX6_findNearest_1 2 rfl rfl ?_
  obtain ⟨q1, hq1, hf⟩ := k_obd hN hf
  refine g_callV (rest := []) O dX6_findNearest_2 (ct_X6_split hZ h0 h2 hq1) vx_RX6_30 h0 rfl rfl (by decide) (Nat.le_of_ble_eq_true rfl) (fun hp2 => ?_)
  change G Z C q1 5 [(0, .ref (za Z i0)), (1, .ref (za Z i1)), (2, .ref (za Z i2))] []
  refine g_aload_n O dX6_findNearest_5 0 rfl rfl ?_
  refine g_ldc O dX6_findNearest_6 lc_RX6_65 ?_
  refine g_putI O dX6_findNearest_8 fp_RX6_66 h0 hf (fun m3 hf => ?_)
  refine g_aload_n O dX6_findNearest_11 0 rfl rfl ?_
  refine g_iconst O dX6_findNearest_12 (-1 : Int32) (by decide) ?_
  refine g_putI O dX6_findNearest_13 fp_RX6_69 h0 hf (fun m4 hf => ?_)
  refine g_iconst O dX6_findNearest_16 (0 : Int32) (by decide) ?_
  refine g_istore_nP O dX6_findNearest_17 rfl (by decide) [(3, .int (0 : Int32)), (0, .ref (za Z i0)), (1, .ref (za Z i1)), (2, .ref (za Z i2))] rfl ?_
  refine g_lp hN (fun (a5 : Int32 × Mem) => G Z C a5.2 18 [(3, .int a5.1), (0, .ref (za Z i0)), (1, .ref (za Z i1)), (2, .ref (za Z i2))] []) hf (fun a5 _ hN5 hI5 hX5 hf => ?_)
  unfold sX6_findNearest_18 at hf
  refine g_iload_n O dX6_findNearest_18 0 rfl rfl ?_
  refine g_aload_n O dX6_findNearest_19 2 rfl rfl ?_
  refine g_getI O dX6_findNearest_20 fx_RX6_44 h1 ?_
  refine g_iconst O dX6_findNearest_23 (4 : Int32) (by decide) ?_
  refine g_imul O dX6_findNearest_24 ?_
  refine g_icmp_ge 95 O dX6_findNearest_25 (by decide) hf (fun c6 hf => ?_) (fun c6 hf => ?_)
  · have hf := hX5 _ hf
    refine g_aload_n O dX6_findNearest_95 1 rfl rfl ?_
    refine g_aload_n O dX6_findNearest_96 1 rfl rfl ?_
    refine g_getI O dX6_findNearest_97 fx_RX6_69 h0 ?_
    refine g_iconst O dX6_findNearest_100 (-1 : Int32) (by decide) ?_
    refine g_jn (fun (y7 : Int32) => G Z C a5.2 112 [] [.int y7, .ref (za Z i0)]) hf (fun y7 hf => ?_) (fun k7 hk7 hf => ?_)
    · refine g_putI O dX6_findNearest_112 fp_RX6_66 h0 hf (fun m8 hf => ?_)
      exact hR _ hf _ _ dX6_findNearest_115
    · skip
      refine g_icmp_ne 108 O dX6_findNearest_101 (by decide) hf (fun c9 hf => ?_) (fun c9 hf => ?_)
      · refine g_iconst O dX6_findNearest_104 (-1 : Int32) (by decide) ?_
        refine g_goto 112 O dX6_findNearest_105 (by decide) ?_
        refine g_sub [] rfl ?_
        exact hk7 _ hf
      · refine g_aload_n O dX6_findNearest_108 1 rfl rfl ?_
        refine g_getI O dX6_findNearest_109 fx_RX6_66 h0 ?_
        refine g_sub [] rfl ?_
        exact hk7 _ hf
  · refine g_aload_n O dX6_findNearest_28 2 rfl rfl ?_
    refine g_iload_n O dX6_findNearest_29 0 rfl rfl ?_
    refine g_iconst O dX6_findNearest_30 (4 : Int32) (by decide) ?_
    refine g_idivC O (by decide) dX6_findNearest_31 ?_
    obtain ⟨q10, hq10, hf⟩ := k_obd hN5 hf
    refine g_callV (rest := []) O dX6_findNearest_32 (ct_X0_frameAt hZ h1 hq10) vx_RX6_49 h1 rfl rfl (by decide) (Nat.le_of_ble_eq_true rfl) (fun hp11 => ?_)
    refine k_ocs hf (fun he hf1 => ?_) (fun w12 he hf1 => ?_)
    · subst he
      have hf := hf1
      change G Z C a5.2 35 [(3, .int a5.1), (0, .ref (za Z i0)), (1, .ref (za Z i1)), (2, .ref (za Z i2))] [.null]
      refine g_astoreN O dX6_findNearest_35 (by decide) [(4, .null), (3, .int a5.1), (0, .ref (za Z i0)), (1, .ref (za Z i1)), (2, .ref (za Z i2))] rfl ?_
      refine g_aloadN O dX6_findNearest_37 0 rfl ?_
      refine g_ifnullN 89 O dX6_findNearest_39 (by decide) ?_
      refine g_iinc O dX6_findNearest_89 1 rfl (by decide) (1) (by decide) (fun y => [(3, .int y), (4, .null), (0, .ref (za Z i0)), (1, .ref (za Z i1)), (2, .ref (za Z i2))]) (fun _ => rfl) hf (fun x13 hf => ?_)
      refine g_goto 18 O dX6_findNearest_92 (by decide) ?_
      refine g_sub [0, 2, 3, 4] rfl ?_
      exact hI5 _ hf
    · subst he
      have hf := hf1
      change G Z C a5.2 35 [(3, .int a5.1), (0, .ref (za Z i0)), (1, .ref (za Z i1)), (2, .ref (za Z i2))] [.ref (za Z w12)]
      refine g_astoreP O dX6_findNearest_35 (by decide) [(4, .ref (za Z w12)), (3, .int a5.1), (0, .ref (za Z i0)), (1, .ref (za Z i1)), (2, .ref (za Z i2))] rfl ?_
      refine g_aload O dX6_findNearest_37 0 rfl ?_
      refine g_ifnullR O dX6_findNearest_39 ?_
      refine g_aload O dX6_findNearest_42 0 rfl ?_
      refine g_getI O dX6_findNearest_44 fx_RX6_53 (hp11 _ rfl) ?_
      refine g_aload_n O dX6_findNearest_47 2 rfl rfl ?_
      refine g_getI O dX6_findNearest_48 fx_RX6_58 h0 ?_
      refine g_icmp_ne 89 O dX6_findNearest_51 (by decide) hf (fun c14 hf => ?_) (fun c14 hf => ?_)
      · refine g_aload_n O dX6_findNearest_54 2 rfl rfl ?_
        refine g_aload_n O dX6_findNearest_55 3 rfl rfl ?_
        refine g_aload_n O dX6_findNearest_56 4 rfl rfl ?_
        refine g_aload O dX6_findNearest_57 0 rfl ?_
        refine g_iload_n O dX6_findNearest_59 1 rfl rfl ?_
        refine g_iconst O dX6_findNearest_60 (4 : Int32) (by decide) ?_
        refine g_iremC O (by decide) dX6_findNearest_61 ?_
        obtain ⟨q15, hq15, hf⟩ := k_obd hN5 hf
        refine g_callV (rest := []) O dX6_findNearest_62 (ct_X6_farnessOfFrame hZ h0 h1 h2 (hp11 _ rfl) hq15) vx_RX6_72 h0 rfl rfl (by decide) (Nat.le_of_ble_eq_true rfl) (fun hp16 => ?_)
        change G Z C q15.2 65 [(4, .ref (za Z w12)), (3, .int a5.1), (0, .ref (za Z i0)), (1, .ref (za Z i1)), (2, .ref (za Z i2))] [.int q15.1]
        refine g_istoreP O dX6_findNearest_65 (by decide) [(5, .int q15.1), (4, .ref (za Z w12)), (3, .int a5.1), (0, .ref (za Z i0)), (1, .ref (za Z i1)), (2, .ref (za Z i2))] rfl ?_
        refine g_iload O dX6_findNearest_67 0 rfl ?_
        refine g_aload_n O dX6_findNearest_69 3 rfl rfl ?_
        refine g_getI O dX6_findNearest_70 fx_RX6_66 h0 ?_
        refine g_icmp_ge 89 O dX6_findNearest_73 (by decide) hf (fun c17 hf => ?_) (fun c17 hf => ?_)
        · refine g_iinc O dX6_findNearest_89 2 rfl (by decide) (1) (by decide) (fun y => [(3, .int y), (5, .int q15.1), (4, .ref (za Z w12)), (0, .ref (za Z i0)), (1, .ref (za Z i1)), (2, .ref (za Z i2))]) (fun _ => rfl) hf (fun x18 hf => ?_)
          refine g_goto 18 O dX6_findNearest_92 (by decide) ?_
          refine g_sub [0, 3, 4, 5] rfl ?_
          exact hI5 _ hf
        · refine g_aload_n O dX6_findNearest_76 3 rfl rfl ?_
          refine g_iload O dX6_findNearest_77 0 rfl ?_
          refine g_putI O dX6_findNearest_79 fp_RX6_66 h0 hf (fun m19 hf => ?_)
          refine g_aload_n O dX6_findNearest_82 3 rfl rfl ?_
          refine g_iload_n O dX6_findNearest_83 2 rfl rfl ?_
          refine g_iconst O dX6_findNearest_84 (4 : Int32) (by decide) ?_
          refine g_idivC O (by decide) dX6_findNearest_85 ?_
          refine g_putI O dX6_findNearest_86 fp_RX6_69 h0 hf (fun m20 hf => ?_)
          refine g_iinc O dX6_findNearest_89 2 rfl (by decide) (1) (by decide) (fun y => [(3, .int y), (5, .int q15.1), (4, .ref (za Z w12)), (0, .ref (za Z i0)), (1, .ref (za Z i1)), (2, .ref (za Z i2))]) (fun _ => rfl) hf (fun x21 hf => ?_)
          refine g_goto 18 O dX6_findNearest_92 (by decide) ?_
          refine g_sub [0, 3, 4, 5] rfl ?_
          exact hI5 _ hf
      · refine g_iinc O dX6_findNearest_89 1 rfl (by decide) (1) (by decide) (fun y => [(3, .int y), (4, .ref (za Z w12)), (0, .ref (za Z i0)), (1, .ref (za Z i1)), (2, .ref (za Z i2))]) (fun _ => rfl) hf (fun x22 hf => ?_)
        refine g_goto 18 O dX6_findNearest_92 (by decide) ?_
        refine g_sub [0, 2, 3, 4] rfl ?_
        exact hI5 _ hf

set_option maxHeartbeats 4000000 in
set_option maxRecDepth 100000 in
theorem ct_X7_begin {Z : ZT} (hZ : ZOk Z) {σ : Mem} {i0 : Nat} {p1 : Int32} {p2 : Int32} (h0 : kn i0 = 7) {r : Mem} (hf : fX7_begin σ i0 p1 p2 = some r) : Ct Z yX7_begin cX7_begin 3 none 1 23 [.ref (za Z i0), .int p1, .int p2] σ none True r := by
  refine ct_v hZ (by decide +kernel) (Nat.le_of_ble_eq_true rfl) hf (fun C K O hN hR hf => ?_)
  have O : Ok Z C RX7 cX7_begin 3 1 23 := O
  change G Z C σ 0 [(0, .ref (za Z i0)), (1, .int p1), (2, .int p2)] []
  unfold fX7_begin at hf
  refine g_aload_n O dX7_begin_0 0 rfl rfl ?_
  refine g_iload_n O dX7_begin_1 1 rfl rfl ?_
  refine g_putI O dX7_begin_2 fp_RX7_9 h0 hf (fun m1 hf => ?_)
  refine g_aload_n O dX7_begin_5 0 rfl rfl ?_
  refine g_iload_n O dX7_begin_6 2 rfl rfl ?_
  refine g_putI O dX7_begin_7 fp_RX7_19 h0 hf (fun m2 hf => ?_)
  refine g_aload_n O dX7_begin_10 0 rfl rfl ?_
  refine g_getR O dX7_begin_11 fx_RX7_15 h0 ?_
  refine g_iconst O dX7_begin_14 (0 : Int32) (by decide) ?_
  obtain ⟨q3, hq3, hf⟩ := k_obd hN hf
  refine g_callS (rest := []) O dX7_begin_15 (ct_J7_fill_53178 hZ (kf_7_2 h0) hq3) sx_RX7_22 rfl rfl (by decide) (Nat.le_of_ble_eq_true rfl) (fun hp4 => ?_)
  change G Z C q3 18 [(0, .ref (za Z i0)), (1, .int p1), (2, .int p2)] []
  exact hR _ hf _ _ dX7_begin_18

set_option maxHeartbeats 4000000 in
set_option maxRecDepth 100000 in
theorem ct_X7_isMissing {Z : ZT} (hZ : ZOk Z) {σ : Mem} {i0 : Nat} (h0 : kn i0 = 7) {r : Int32} (hf : fX7_isMissing σ i0 = some r) : Ct Z yX7_isMissing cX7_isMissing 1 (some .boolean) 0 0 [.ref (za Z i0)] σ (some (.int r)) (r = 0 ∨ r = 1) σ := by
  refine ct_z hZ (by decide +kernel) (Nat.le_of_ble_eq_true rfl) hf (fun C K O hN hR hf => ?_)
  have O : Ok Z C RX7 cX7_isMissing 1 0 0 := O
  change G Z C σ 0 [(0, .ref (za Z i0))] []
  unfold fX7_isMissing at hf
  refine g_aload_n O dX7_isMissing_0 0 rfl rfl ?_
  refine g_getI O dX7_isMissing_1 fx_RX7_9 h0 ?_
  refine g_iconst O dX7_isMissing_4 (-1 : Int32) (by decide) ?_
  refine g_icmp_ne 12 O dX7_isMissing_5 (by decide) hf (fun c1 hf => ?_) (fun c1 hf => ?_)
  · refine g_iconst O dX7_isMissing_8 (1 : Int32) (by decide) ?_
    refine g_goto 13 O dX7_isMissing_9 (by decide) ?_
    exact hR _ hf (Or.inr rfl) _ _ dX7_isMissing_13
  · refine g_iconst O dX7_isMissing_12 (0 : Int32) (by decide) ?_
    exact hR _ hf (Or.inl rfl) _ _ dX7_isMissing_13

set_option maxHeartbeats 4000000 in
set_option maxRecDepth 100000 in
theorem ct_X7_hasRun {Z : ZT} (hZ : ZOk Z) {σ : Mem} {i0 : Nat} {p1 : Int32} {p2 : Int32} (h0 : kn i0 = 7) {r : Int32} (hf : fX7_hasRun σ i0 p1 p2 = some r) : Ct Z yX7_hasRun cX7_hasRun 3 (some .boolean) 0 0 [.ref (za Z i0), .int p1, .int p2] σ (some (.int r)) (r = 0 ∨ r = 1) σ := by
  refine ct_z hZ (by decide +kernel) (Nat.le_of_ble_eq_true rfl) hf (fun C K O hN hR hf => ?_)
  have O : Ok Z C RX7 cX7_hasRun 3 0 0 := O
  change G Z C σ 0 [(0, .ref (za Z i0)), (1, .int p1), (2, .int p2)] []
  unfold fX7_hasRun at hf
  refine g_iload_n O dX7_hasRun_0 1 rfl rfl ?_
  refine g_if_lt 30 O dX7_hasRun_1 (by decide) hf (fun c1 hf => ?_) (fun c1 hf => ?_)
  · refine g_iconst O dX7_hasRun_30 (0 : Int32) (by decide) ?_
    exact hR _ hf (Or.inl rfl) _ _ dX7_hasRun_31
  · refine g_iload_n O dX7_hasRun_4 2 rfl rfl ?_
    refine g_if_lt 30 O dX7_hasRun_5 (by decide) hf (fun c2 hf => ?_) (fun c2 hf => ?_)
    · refine g_iconst O dX7_hasRun_30 (0 : Int32) (by decide) ?_
      exact hR _ hf (Or.inl rfl) _ _ dX7_hasRun_31
    · refine g_iload_n O dX7_hasRun_8 1 rfl rfl ?_
      refine g_aload_n O dX7_hasRun_9 0 rfl rfl ?_
      refine g_getI O dX7_hasRun_10 fx_RX7_19 h0 ?_
      refine g_icmp_gt 30 O dX7_hasRun_13 (by decide) hf (fun c3 hf => ?_) (fun c3 hf => ?_)
      · refine g_iconst O dX7_hasRun_30 (0 : Int32) (by decide) ?_
        exact hR _ hf (Or.inl rfl) _ _ dX7_hasRun_31
      · refine g_iload_n O dX7_hasRun_16 2 rfl rfl ?_
        refine g_aload_n O dX7_hasRun_17 0 rfl rfl ?_
        refine g_getI O dX7_hasRun_18 fx_RX7_19 h0 ?_
        refine g_iload_n O dX7_hasRun_21 1 rfl rfl ?_
        refine g_isub O dX7_hasRun_22 ?_
        refine g_icmp_gt 30 O dX7_hasRun_23 (by decide) hf (fun c4 hf => ?_) (fun c4 hf => ?_)
        · refine g_iconst O dX7_hasRun_30 (0 : Int32) (by decide) ?_
          exact hR _ hf (Or.inl rfl) _ _ dX7_hasRun_31
        · refine g_iconst O dX7_hasRun_26 (1 : Int32) (by decide) ?_
          refine g_goto 31 O dX7_hasRun_27 (by decide) ?_
          exact hR _ hf (Or.inr rfl) _ _ dX7_hasRun_31

set_option maxHeartbeats 4000000 in
set_option maxRecDepth 100000 in
theorem ct_X7_at {Z : ZT} (hZ : ZOk Z) {σ : Mem} {i0 : Nat} {p1 : Int32} (h0 : kn i0 = 7) {r : Int32} (hf : fX7_at σ i0 p1 = some r) : Ct Z yX7_at cX7_at 2 (some .int) 1 22 [.ref (za Z i0), .int p1] σ (some (.int r)) True σ := by
  refine ct_i hZ (by decide +kernel) (Nat.le_of_ble_eq_true rfl) hf (fun C K O hN hR hf => ?_)
  have O : Ok Z C RX7 cX7_at 2 1 22 := O
  change G Z C σ 0 [(0, .ref (za Z i0)), (1, .int p1)] []
  unfold fX7_at at hf
  refine g_aload_n O dX7_at_0 0 rfl rfl ?_
  refine g_iload_n O dX7_at_1 1 rfl rfl ?_
  refine g_iconst O dX7_at_2 (1 : Int32) (by decide) ?_
  obtain ⟨q1, hq1, hf⟩ := k_obd hN hf
  refine g_callV (rest := []) O dX7_at_3 (ct_X7_hasRun hZ h0 hq1) vx_RX7_28 h0 rfl rfl (by decide) (Nat.le_of_ble_eq_true rfl) (fun hp2 => ?_)
  change G Z C σ 6 [(0, .ref (za Z i0)), (1, .int p1)] [.int q1]
  refine g_if_eq 18 O dX7_at_6 (by decide) hf (fun c3 hf => ?_) (fun c3 hf => ?_)
  · refine g_iconst O dX7_at_18 (0 : Int32) (by decide) ?_
    exact hR _ hf _ _ dX7_at_19
  · refine g_aload_n O dX7_at_9 0 rfl rfl ?_
    refine g_getR O dX7_at_10 fx_RX7_15 h0 ?_
    refine g_iload_n O dX7_at_13 1 rfl rfl ?_
    refine g_iald O hN dX7_at_14 (kf_7_2 h0) hf (fun hf => ?_)
    refine g_goto 19 O dX7_at_15 (by decide) ?_
    exact hR _ hf _ _ dX7_at_19

set_option maxHeartbeats 4000000 in
set_option maxRecDepth 100000 in
theorem ct_X7_set {Z : ZT} (hZ : ZOk Z) {σ : Mem} {i0 : Nat} {p1 : Int32} {p2 : Int32} (h0 : kn i0 = 7) {r : Mem} (hf : fX7_set σ i0 p1 p2 = some r) : Ct Z yX7_set cX7_set 3 none 1 22 [.ref (za Z i0), .int p1, .int p2] σ none True r := by
  refine ct_v hZ (by decide +kernel) (Nat.le_of_ble_eq_true rfl) hf (fun C K O hN hR hf => ?_)
  have O : Ok Z C RX7 cX7_set 3 1 22 := O
  change G Z C σ 0 [(0, .ref (za Z i0)), (1, .int p1), (2, .int p2)] []
  unfold fX7_set at hf
  refine g_aload_n O dX7_set_0 0 rfl rfl ?_
  refine g_iload_n O dX7_set_1 1 rfl rfl ?_
  refine g_iconst O dX7_set_2 (1 : Int32) (by decide) ?_
  obtain ⟨q1, hq1, hf⟩ := k_obd hN hf
  refine g_callV (rest := []) O dX7_set_3 (ct_X7_hasRun hZ h0 hq1) vx_RX7_28 h0 rfl rfl (by decide) (Nat.le_of_ble_eq_true rfl) (fun hp2 => ?_)
  change G Z C σ 6 [(0, .ref (za Z i0)), (1, .int p1), (2, .int p2)] [.int q1]
  refine g_if_eq 28 O dX7_set_6 (by decide) hf (fun c3 hf => ?_) (fun c3 hf => ?_)
  · exact hR _ hf _ _ dX7_set_28
  · refine g_aload_n O dX7_set_9 0 rfl rfl ?_
    refine g_getR O dX7_set_10 fx_RX7_15 h0 ?_
    refine g_iload_n O dX7_set_13 1 rfl rfl ?_
    refine g_aload_n O dX7_set_14 0 rfl rfl ?_
    refine g_getI O dX7_set_15 fx_RX7_9 h0 ?_
    refine g_jn (fun (y4 : Int32) => G Z C σ 27 [] [.int y4, .int p1, .ref (za Z (i0 + 1))]) hf (fun y4 hf => ?_) (fun k4 hk4 hf => ?_)
    · refine g_iast O hN dX7_set_27 (kf_7_2 h0) hf (fun m5 hf => ?_)
      exact hR _ hf _ _ dX7_set_28
    · skip
      refine g_if_ne 26 O dX7_set_18 (by decide) hf (fun c6 hf => ?_) (fun c6 hf => ?_)
      · refine g_iload_n O dX7_set_21 2 rfl rfl ?_
        refine g_i2s O dX7_set_22 ?_
        refine g_goto 27 O dX7_set_23 (by decide) ?_
        refine g_sub [] rfl ?_
        exact hk4 _ hf
      · refine g_iload_n O dX7_set_26 2 rfl rfl ?_
        refine g_sub [] rfl ?_
        exact hk4 _ hf

set_option maxHeartbeats 4000000 in
set_option maxRecDepth 100000 in
theorem ct_X7_take {Z : ZT} (hZ : ZOk Z) {σ : Mem} {i0 : Nat} {p1 : Int32} {i2 : Nat} {p3 : Int32} {p4 : Int32} (h0 : kn i0 = 7) (h2 : kn i2 = 7) {r : Mem} (hf : fX7_take σ i0 p1 i2 p3 p4 = some r) : Ct Z yX7_take cX7_take 5 none 1 40 [.ref (za Z i0), .int p1, .ref (za Z i2), .int p3, .int p4] σ none True r := by
  refine ct_v hZ (by decide +kernel) (Nat.le_of_ble_eq_true rfl) hf (fun C K O hN hR hf => ?_)
  have O : Ok Z C RX7 cX7_take 5 1 40 := O
  change G Z C σ 0 [(0, .ref (za Z i0)), (1, .int p1), (2, .ref (za Z i2)), (3, .int p3), (4, .int p4)] []
  unfold fX7_take at hf
  refine g_aload_n O dX7_take_0 2 rfl rfl ?_
  refine g_iload_n O dX7_take_1 3 rfl rfl ?_
  refine g_iload O dX7_take_2 4 rfl ?_
  obtain ⟨q1, hq1, hf⟩ := k_obd hN hf
  refine g_callV (rest := []) O dX7_take_4 (ct_X7_hasRun hZ h2 hq1) vx_RX7_28 h2 rfl rfl (by decide) (Nat.le_of_ble_eq_true rfl) (fun hp2 => ?_)
  change G Z C σ 7 [(0, .ref (za Z i0)), (1, .int p1), (2, .ref (za Z i2)), (3, .int p3), (4, .int p4)] [.int q1]
  refine g_if_eq 35 O dX7_take_7 (by decide) hf (fun c3 hf => ?_) (fun c3 hf => ?_)
  · exact hR _ hf _ _ dX7_take_35
  · refine g_aload_n O dX7_take_10 0 rfl rfl ?_
    refine g_iload_n O dX7_take_11 1 rfl rfl ?_
    refine g_iload O dX7_take_12 4 rfl ?_
    obtain ⟨q4, hq4, hf⟩ := k_obd hN hf
    refine g_callV (rest := []) O dX7_take_14 (ct_X7_hasRun hZ h0 hq4) vx_RX7_28 h0 rfl rfl (by decide) (Nat.le_of_ble_eq_true rfl) (fun hp5 => ?_)
    change G Z C σ 17 [(0, .ref (za Z i0)), (1, .int p1), (2, .ref (za Z i2)), (3, .int p3), (4, .int p4)] [.int q4]
    refine g_if_eq 35 O dX7_take_17 (by decide) hf (fun c6 hf => ?_) (fun c6 hf => ?_)
    · exact hR _ hf _ _ dX7_take_35
    · refine g_aload_n O dX7_take_20 2 rfl rfl ?_
      refine g_getR O dX7_take_21 fx_RX7_15 h2 ?_
      refine g_iload_n O dX7_take_24 3 rfl rfl ?_
      refine g_aload_n O dX7_take_25 0 rfl rfl ?_
      refine g_getR O dX7_take_26 fx_RX7_15 h0 ?_
      refine g_iload_n O dX7_take_29 1 rfl rfl ?_
      refine g_iload O dX7_take_30 4 rfl ?_
      refine g_copy O hN dX7_take_32 lm_RX7_32 mm_copy.1 mm_copy.2.1 mm_copy.2.2 (kf_7_2 h2) (kf_7_2 h0) (by decide) (by decide) (Nat.le_of_ble_eq_true rfl) hf (fun m7 hf => ?_)
      exact hR _ hf _ _ dX7_take_35

set_option maxHeartbeats 4000000 in
set_option maxRecDepth 100000 in
theorem ct_X8_addSpelled {Z : ZT} (hZ : ZOk Z) {σ : Mem} {i0 : Nat} (h0 : kn i0 = 8) {r : Mem} (hf : fX8_addSpelled σ i0 = some r) : Ct Z yX8_addSpelled cX8_addSpelled 2 none 1 21 [.ref (za Z i0)] σ none True r := by
  refine ct_v hZ (by decide +kernel) (Nat.le_of_ble_eq_true rfl) hf (fun C K O hN hR hf => ?_)
  have O : Ok Z C RX8 cX8_addSpelled 2 1 21 := O
  change G Z C σ 0 [(0, .ref (za Z i0))] []
  unfold fX8_addSpelled at hf
  refine g_aload_n O dX8_addSpelled_0 0 rfl rfl ?_
  refine g_getI O dX8_addSpelled_1 fx_RX8_30 h0 ?_
  refine g_jn (fun (y1 : Mem) => G Z C y1 16 [(0, .ref (za Z i0))] []) hf (fun y1 hf => ?_) (fun k1 hk1 hf => ?_)
  · refine g_iconst O dX8_addSpelled_16 (0 : Int32) (by decide) ?_
    refine g_istore_nP O dX8_addSpelled_17 rfl (by decide) [(1, .int (0 : Int32)), (0, .ref (za Z i0))] rfl ?_
    refine g_lp hN (fun (a2 : Int32 × Mem) => G Z C a2.2 18 [(1, .int a2.1), (0, .ref (za Z i0))] []) hf (fun a2 _ hN2 hI2 hX2 hf => ?_)
    unfold sX8_addSpelled_18 at hf
    refine g_iload_n O dX8_addSpelled_18 0 rfl rfl ?_
    refine g_aload_n O dX8_addSpelled_19 1 rfl rfl ?_
    refine g_getR O dX8_addSpelled_20 fx_RX8_14 h0 ?_
    refine g_getI O dX8_addSpelled_23 fx_RX8_73 (kf_8_0 h0) ?_
    refine g_icmp_ge 50 O dX8_addSpelled_26 (by decide) hf (fun c3 hf => ?_) (fun c3 hf => ?_)
    · have hf := hX2 _ hf
      refine g_aload_n O dX8_addSpelled_50 1 rfl rfl ?_
      refine g_getI O dX8_addSpelled_51 fx_RX8_30 h0 ?_
      refine g_bipush O dX8_addSpelled_54 (6 : Int32) (by decide) ?_
      refine g_icmp_ge 85 O dX8_addSpelled_56 (by decide) hf (fun c4 hf => ?_) (fun c4 hf => ?_)
      · exact hR _ hf _ _ dX8_addSpelled_85
      · refine g_aload_n O dX8_addSpelled_59 1 rfl rfl ?_
        refine g_getR O dX8_addSpelled_60 fx_RX8_23 h0 ?_
        refine g_aload_n O dX8_addSpelled_63 1 rfl rfl ?_
        refine g_getI O dX8_addSpelled_64 fx_RX8_30 h0 ?_
        refine g_aload_n O dX8_addSpelled_67 1 rfl rfl ?_
        refine g_getR O dX8_addSpelled_68 fx_RX8_14 h0 ?_
        refine g_getI O dX8_addSpelled_71 fx_RX8_73 (kf_8_0 h0) ?_
        refine g_iast O hN dX8_addSpelled_74 (kf_8_2 h0) hf (fun m5 hf => ?_)
        refine g_aload_n O dX8_addSpelled_75 1 rfl rfl ?_
        refine g_dup O dX8_addSpelled_76 rfl ?_
        refine g_getI O dX8_addSpelled_77 fx_RX8_30 h0 ?_
        refine g_iconst O dX8_addSpelled_80 (1 : Int32) (by decide) ?_
        refine g_iadd O dX8_addSpelled_81 ?_
        refine g_putI O dX8_addSpelled_82 fp_RX8_30 h0 hf (fun m6 hf => ?_)
        exact hR _ hf _ _ dX8_addSpelled_85
    · refine g_aload_n O dX8_addSpelled_29 1 rfl rfl ?_
      refine g_getR O dX8_addSpelled_30 fx_RX8_20 h0 ?_
      refine g_aload_n O dX8_addSpelled_33 1 rfl rfl ?_
      refine g_getR O dX8_addSpelled_34 fx_RX8_14 h0 ?_
      refine g_iload_n O dX8_addSpelled_37 0 rfl rfl ?_
      obtain ⟨q7, hq7, hf⟩ := k_obd hN2 hf
      refine g_callV (rest := [.ref (za Z (i0 + 3))]) O dX8_addSpelled_38 (ct_X5_at hZ (kf_8_0 h0) hq7) vx_RX8_74 (kf_8_0 h0) rfl rfl (by decide) (Nat.le_of_ble_eq_true rfl) (fun hp8 => ?_)
      change G Z C a2.2 41 [(1, .int a2.1), (0, .ref (za Z i0))] [.int q7, .ref (za Z (i0 + 3))]
      obtain ⟨q9, hq9, hf⟩ := k_obd hN2 hf
      refine g_callV (rest := []) O dX8_addSpelled_41 (ct_X5_add hZ (kf_8_1 h0) hq9) vx_RX8_85 (kf_8_1 h0) rfl rfl (by decide) (Nat.le_of_ble_eq_true rfl) (fun hp10 => ?_)
      change G Z C q9 44 [(1, .int a2.1), (0, .ref (za Z i0))] []
      refine g_iinc O dX8_addSpelled_44 0 rfl (by decide) (1) (by decide) (fun y => [(1, .int y), (0, .ref (za Z i0))]) (fun _ => rfl) hf (fun x11 hf => ?_)
      refine g_goto 18 O dX8_addSpelled_47 (by decide) ?_
      exact hI2 _ hf
  · skip
    refine g_if_le 16 O dX8_addSpelled_4 (by decide) hf (fun c12 hf => ?_) (fun c12 hf => ?_)
    · exact hk1 _ hf
    · refine g_aload_n O dX8_addSpelled_7 0 rfl rfl ?_
      refine g_getR O dX8_addSpelled_8 fx_RX8_20 h0 ?_
      refine g_bipush O dX8_addSpelled_11 (32 : Int32) (by decide) ?_
      obtain ⟨q13, hq13, hf⟩ := k_obd hN hf
      refine g_callV (rest := []) O dX8_addSpelled_13 (ct_X5_add hZ (kf_8_1 h0) hq13) vx_RX8_85 (kf_8_1 h0) rfl rfl (by decide) (Nat.le_of_ble_eq_true rfl) (fun hp14 => ?_)
      change G Z C q13 16 [(0, .ref (za Z i0))] []
      exact hk1 _ hf

set_option maxHeartbeats 4000000 in
set_option maxRecDepth 100000 in
theorem ct_X8_agreement {Z : ZT} (hZ : ZOk Z) {σ : Mem} {i0 : Nat} {i1 : Nat} {p2 : Int32} {p3 : Int32} (h0 : kn i0 = 0) (h1 : kn i1 = 2) {r : Int32} (hf : fX8_agreement σ i0 i1 p2 p3 = some r) : Ct Z yX8_agreement cX8_agreement 8 (some .int) 2 42 [.ref (za Z i0), .ref (za Z i1), .int p2, .int p3] σ (some (.int r)) True σ := by
  refine ct_i hZ (by decide +kernel) (Nat.le_of_ble_eq_true rfl) hf (fun C K O hN hR hf => ?_)
  have O : Ok Z C RX8 cX8_agreement 8 2 42 := O
  change G Z C σ 0 [(0, .ref (za Z i0)), (1, .ref (za Z i1)), (2, .int p2), (3, .int p3)] []
  unfold fX8_agreement at hf
  refine g_aload_n O dX8_agreement_0 0 rfl rfl ?_
  refine g_aload_n O dX8_agreement_1 1 rfl rfl ?_
  refine g_getI O dX8_agreement_2 fx_RX8_34 h1 ?_
  obtain ⟨q1, hq1, hf⟩ := k_obd hN hf
  refine g_callV (rest := []) O dX8_agreement_5 (ct_X0_frameAt hZ h0 hq1) vx_RX8_39 h0 rfl rfl (by decide) (Nat.le_of_ble_eq_true rfl) (fun hp2 => ?_)
  refine k_ocs hf (fun he hf1 => ?_) (fun w3 he hf1 => ?_)
  · subst he
    have hf := hf1
    change G Z C σ 8 [(0, .ref (za Z i0)), (1, .ref (za Z i1)), (2, .int p2), (3, .int p3)] [.null]
    refine g_astoreN O dX8_agreement_8 (by decide) [(4, .null), (0, .ref (za Z i0)), (1, .ref (za Z i1)), (2, .int p2), (3, .int p3)] rfl ?_
    refine g_aloadN O dX8_agreement_10 0 rfl ?_
    refine g_ifnullN 25 O dX8_agreement_12 (by decide) ?_
    refine g_iconst O dX8_agreement_25 (0 : Int32) (by decide) ?_
    exact hR _ hf _ _ dX8_agreement_26
  · subst he
    have hf := hf1
    change G Z C σ 8 [(0, .ref (za Z i0)), (1, .ref (za Z i1)), (2, .int p2), (3, .int p3)] [.ref (za Z w3)]
    refine g_astoreP O dX8_agreement_8 (by decide) [(4, .ref (za Z w3)), (0, .ref (za Z i0)), (1, .ref (za Z i1)), (2, .int p2), (3, .int p3)] rfl ?_
    refine g_aload O dX8_agreement_10 0 rfl ?_
    refine g_ifnullR O dX8_agreement_12 ?_
    refine g_aload O dX8_agreement_15 0 rfl ?_
    refine g_iload_n O dX8_agreement_17 3 rfl rfl ?_
    obtain ⟨q4, hq4, hf⟩ := k_obd hN hf
    refine g_callV (rest := []) O dX8_agreement_18 (ct_X3_groupOf hZ (hp2 _ rfl) hq4) vx_RX8_88 (hp2 _ rfl) rfl rfl (by decide) (Nat.le_of_ble_eq_true rfl) (fun hp5 => ?_)
    change G Z C σ 21 [(4, .ref (za Z w3)), (0, .ref (za Z i0)), (1, .ref (za Z i1)), (2, .int p2), (3, .int p3)] [.int q4]
    refine g_iconst O dX8_agreement_21 (-1 : Int32) (by decide) ?_
    refine g_icmp_ne 27 O dX8_agreement_22 (by decide) hf (fun c6 hf => ?_) (fun c6 hf => ?_)
    · refine g_iconst O dX8_agreement_25 (0 : Int32) (by decide) ?_
      exact hR _ hf _ _ dX8_agreement_26
    · refine g_aload O dX8_agreement_27 0 rfl ?_
      refine g_iload_n O dX8_agreement_29 3 rfl rfl ?_
      obtain ⟨q7, hq7, hf⟩ := k_obd hN hf
      refine g_callV (rest := []) O dX8_agreement_30 (ct_X3_groupOf hZ (hp2 _ rfl) hq7) vx_RX8_88 (hp2 _ rfl) rfl rfl (by decide) (Nat.le_of_ble_eq_true rfl) (fun hp8 => ?_)
      change G Z C σ 33 [(4, .ref (za Z w3)), (0, .ref (za Z i0)), (1, .ref (za Z i1)), (2, .int p2), (3, .int p3)] [.int q7]
      refine g_istoreP O dX8_agreement_33 (by decide) [(5, .int q7), (4, .ref (za Z w3)), (0, .ref (za Z i0)), (1, .ref (za Z i1)), (2, .int p2), (3, .int p3)] rfl ?_
      refine g_aload_n O dX8_agreement_35 2 rfl rfl ?_
      refine g_aload_n O dX8_agreement_36 3 rfl rfl ?_
      refine g_aload O dX8_agreement_37 1 rfl ?_
      refine g_iload O dX8_agreement_39 0 rfl ?_
      obtain ⟨q9, hq9, hf⟩ := k_obd hN hf
      refine g_callV (rest := [.ref (za Z i1), .ref (za Z i0)]) O dX8_agreement_41 (ct_X3_nounOf hZ (hp2 _ rfl) hq9) vx_RX8_91 (hp2 _ rfl) rfl rfl (by decide) (Nat.le_of_ble_eq_true rfl) (fun hp10 => ?_)
      change G Z C σ 44 [(5, .int q7), (4, .ref (za Z w3)), (0, .ref (za Z i0)), (1, .ref (za Z i1)), (2, .int p2), (3, .int p3)] [.int q9, .ref (za Z i1), .ref (za Z i0)]
      obtain ⟨q11, hq11, hf⟩ := k_obd hN hf
      refine g_callV (rest := [.ref (za Z i0)]) O dX8_agreement_44 (ct_X2_wordIn hZ h1 hq11) vx_RX8_50 h1 rfl rfl (by decide) (Nat.le_of_ble_eq_true rfl) (fun hp12 => ?_)
      change G Z C σ 47 [(5, .int q7), (4, .ref (za Z w3)), (0, .ref (za Z i0)), (1, .ref (za Z i1)), (2, .int p2), (3, .int p3)] [.int q11, .ref (za Z i0)]
      obtain ⟨q13, hq13, hf⟩ := k_obd hN hf
      refine g_callV (rest := []) O dX8_agreement_47 (ct_X0_wordAt hZ h0 hq13) vx_RX8_54 h0 rfl rfl (by decide) (Nat.le_of_ble_eq_true rfl) (fun hp14 => ?_)
      refine k_ocs hf (fun he hf1 => ?_) (fun w15 he hf1 => ?_)
      · subst he
        have hf := hf1
        change G Z C σ 50 [(5, .int q7), (4, .ref (za Z w3)), (0, .ref (za Z i0)), (1, .ref (za Z i1)), (2, .int p2), (3, .int p3)] [.null]
        refine g_astoreN O dX8_agreement_50 (by decide) [(6, .null), (5, .int q7), (4, .ref (za Z w3)), (0, .ref (za Z i0)), (1, .ref (za Z i1)), (2, .int p2), (3, .int p3)] rfl ?_
        refine g_aloadN O dX8_agreement_52 0 rfl ?_
        refine g_ifnonnullN O dX8_agreement_54 ?_
        refine g_iconst O dX8_agreement_57 (0 : Int32) (by decide) ?_
        exact hR _ hf _ _ dX8_agreement_58
      · subst he
        have hf := hf1
        change G Z C σ 50 [(5, .int q7), (4, .ref (za Z w3)), (0, .ref (za Z i0)), (1, .ref (za Z i1)), (2, .int p2), (3, .int p3)] [.ref (za Z w15)]
        refine g_astoreP O dX8_agreement_50 (by decide) [(6, .ref (za Z w15)), (5, .int q7), (4, .ref (za Z w3)), (0, .ref (za Z i0)), (1, .ref (za Z i1)), (2, .int p2), (3, .int p3)] rfl ?_
        refine g_aload O dX8_agreement_52 0 rfl ?_
        refine g_ifnonnullR 59 O dX8_agreement_54 (by decide) ?_
        refine g_aload O dX8_agreement_59 0 rfl ?_
        refine g_getI O dX8_agreement_61 fx_RX8_94 (hp14 _ rfl) ?_
        refine g_iconst O dX8_agreement_64 (3 : Int32) (by decide) ?_
        refine g_jn (fun (y16 : Int32) => G Z C σ 78 [(6, .ref (za Z w15)), (4, .ref (za Z w3)), (2, .int p2)] [.int y16]) hf (fun y16 hf => ?_) (fun k16 hk16 hf => ?_)
        · refine g_istoreP O dX8_agreement_78 (by decide) [(7, .int y16), (6, .ref (za Z w15)), (4, .ref (za Z w3)), (2, .int p2)] rfl ?_
          refine g_aload O dX8_agreement_80 2 rfl ?_
          refine g_iload_n O dX8_agreement_82 3 rfl rfl ?_
          obtain ⟨q17, hq17, hf⟩ := k_obd hN hf
          refine g_callV (rest := []) O dX8_agreement_83 (ct_X3_caseOf hZ (hp2 _ rfl) hq17) vx_RX8_99 (hp2 _ rfl) rfl rfl (by decide) (Nat.le_of_ble_eq_true rfl) (fun hp18 => ?_)
          change G Z C σ 86 [(7, .int y16), (6, .ref (za Z w15)), (4, .ref (za Z w3)), (2, .int p2)] [.int q17]
          refine g_iconst O dX8_agreement_86 (0 : Int32) (by decide) ?_
          refine g_mmax O dX8_agreement_87 lm_RX8_102 mm_max.1 mm_max.2.1 mm_max.2.2 (by decide) (Nat.le_of_ble_eq_true rfl) ?_
          refine g_iload O dX8_agreement_90 0 rfl ?_
          refine g_iconst O dX8_agreement_92 (4 : Int32) (by decide) ?_
          refine g_imul O dX8_agreement_93 ?_
          refine g_iadd O dX8_agreement_94 ?_
          refine g_aload O dX8_agreement_95 1 rfl ?_
          refine g_getI O dX8_agreement_97 fx_RX8_108 (hp14 _ rfl) ?_
          refine g_bipush O dX8_agreement_100 (8 : Int32) (by decide) ?_
          refine g_imul O dX8_agreement_102 ?_
          refine g_iadd O dX8_agreement_103 ?_
          exact hR _ hf _ _ dX8_agreement_104
        · skip
          refine g_icmp_ne 72 O dX8_agreement_65 (by decide) hf (fun c19 hf => ?_) (fun c19 hf => ?_)
          · refine g_iconst O dX8_agreement_68 (0 : Int32) (by decide) ?_
            refine g_goto 78 O dX8_agreement_69 (by decide) ?_
            refine g_sub [0, 2, 5] rfl ?_
            exact hk16 _ hf
          · refine g_iload_n O dX8_agreement_72 6 rfl rfl ?_
            refine g_iload O dX8_agreement_73 1 rfl ?_
            refine g_ishr O dX8_agreement_75 ?_
            refine g_iconst O dX8_agreement_76 (1 : Int32) (by decide) ?_
            refine g_iand O dX8_agreement_77 ?_
            refine g_sub [0, 2, 5] rfl ?_
            exact hk16 _ hf

set_option maxHeartbeats 4000000 in
set_option maxRecDepth 100000 in
theorem ct_X8_say {Z : ZT} (hZ : ZOk Z) {σ : Mem} {i0 : Nat} {i1 : Nat} {i2 : Nat} {p3 : Int32} {p4 : Int32} (h0 : kn i0 = 8) (h1 : kn i1 = 0) (h2 : kn i2 = 2) {r : (Int32 × Mem)} (hf : fX8_say σ i0 i1 i2 p3 p4 = some r) : Ct Z yX8_say cX8_say 8 (some .boolean) 3 89 [.ref (za Z i0), .ref (za Z i1), .ref (za Z i2), .int p3, .int p4] σ (some (.int r.1)) (r.1 = 0 ∨ r.1 = 1) r.2 := by
  refine ct_zm hZ (by decide +kernel) (Nat.le_of_ble_eq_true rfl) hf (fun C K O hN hR hf => ?_)
  have O : Ok Z C RX8 cX8_say 8 3 89 := O
  change G Z C σ 0 [(0, .ref (za Z i0)), (1, .ref (za Z i1)), (2, .ref (za Z i2)), (3, .int p3), (4, .int p4)] []
  unfold fX8_say at hf
  refine g_aload_n O dX8_say_0 0 rfl rfl ?_
  refine g_getR O dX8_say_1 fx_RX8_20 h0 ?_
  obtain ⟨q1, hq1, hf⟩ := k_obd hN hf
  refine g_callV (rest := []) O dX8_say_4 (ct_X5_clear hZ (kf_8_1 h0) hq1) vx_RX8_27 (kf_8_1 h0) rfl rfl (by decide) (Nat.le_of_ble_eq_true rfl) (fun hp2 => ?_)
  change G Z C q1 7 [(0, .ref (za Z i0)), (1, .ref (za Z i1)), (2, .ref (za Z i2)), (3, .int p3), (4, .int p4)] []
  refine g_aload_n O dX8_say_7 0 rfl rfl ?_
  refine g_iconst O dX8_say_8 (0 : Int32) (by decide) ?_
  refine g_putI O dX8_say_9 fp_RX8_30 h0 hf (fun m3 hf => ?_)
  refine g_aload_n O dX8_say_12 1 rfl rfl ?_
  refine g_aload_n O dX8_say_13 2 rfl rfl ?_
  refine g_getI O dX8_say_14 fx_RX8_34 h2 ?_
  obtain ⟨q4, hq4, hf⟩ := k_obd hN hf
  refine g_callV (rest := []) O dX8_say_17 (ct_X0_frameAt hZ h1 hq4) vx_RX8_39 h1 rfl rfl (by decide) (Nat.le_of_ble_eq_true rfl) (fun hp5 => ?_)
  refine k_ocs hf (fun he hf1 => ?_) (fun w6 he hf1 => ?_)
  · subst he
    have hf := hf1
    change G Z C m3 20 [(0, .ref (za Z i0)), (1, .ref (za Z i1)), (2, .ref (za Z i2)), (3, .int p3), (4, .int p4)] [.null]
    refine g_astoreN O dX8_say_20 (by decide) [(5, .null), (0, .ref (za Z i0)), (1, .ref (za Z i1)), (2, .ref (za Z i2)), (3, .int p3), (4, .int p4)] rfl ?_
    refine g_aloadN O dX8_say_22 0 rfl ?_
    refine g_ifnonnullN O dX8_say_24 ?_
    refine g_iconst O dX8_say_27 (0 : Int32) (by decide) ?_
    exact hR _ _ hf (Or.inl rfl) _ _ dX8_say_28
  · subst he
    have hf := hf1
    change G Z C m3 20 [(0, .ref (za Z i0)), (1, .ref (za Z i1)), (2, .ref (za Z i2)), (3, .int p3), (4, .int p4)] [.ref (za Z w6)]
    refine g_astoreP O dX8_say_20 (by decide) [(5, .ref (za Z w6)), (0, .ref (za Z i0)), (1, .ref (za Z i1)), (2, .ref (za Z i2)), (3, .int p3), (4, .int p4)] rfl ?_
    refine g_aload O dX8_say_22 0 rfl ?_
    refine g_ifnonnullR 29 O dX8_say_24 (by decide) ?_
    refine g_iconst O dX8_say_29 (0 : Int32) (by decide) ?_
    refine g_istoreP O dX8_say_30 (by decide) [(6, .int (0 : Int32)), (5, .ref (za Z w6)), (0, .ref (za Z i0)), (1, .ref (za Z i1)), (2, .ref (za Z i2)), (3, .int p3), (4, .int p4)] rfl ?_
    refine g_lp hN (fun (a7 : Int32 × Mem) => G Z C a7.2 32 [(6, .int a7.1), (5, .ref (za Z w6)), (0, .ref (za Z i0)), (1, .ref (za Z i1)), (2, .ref (za Z i2)), (3, .int p3), (4, .int p4)] []) hf (fun a7 _ hN7 hI7 hX7 hf => ?_)
    unfold sX8_say_32 at hf
    refine g_iload O dX8_say_32 0 rfl ?_
    refine g_aload O dX8_say_34 1 rfl ?_
    refine g_getI O dX8_say_36 fx_RX8_45 (hp5 _ rfl) ?_
    refine g_icmp_ge 107 O dX8_say_39 (by decide) hf (fun c8 hf => ?_) (fun c8 hf => ?_)
    · have hf := hX7 _ hf
      refine g_iconst O dX8_say_107 (1 : Int32) (by decide) ?_
      exact hR _ _ hf (Or.inr rfl) _ _ dX8_say_108
    · refine g_aload_n O dX8_say_42 3 rfl rfl ?_
      refine g_aload_n O dX8_say_43 4 rfl rfl ?_
      refine g_iload O dX8_say_44 0 rfl ?_
      obtain ⟨q9, hq9, hf⟩ := k_obd hN7 hf
      refine g_callV (rest := [.ref (za Z i1)]) O dX8_say_46 (ct_X2_wordIn hZ h2 hq9) vx_RX8_50 h2 rfl rfl (by decide) (Nat.le_of_ble_eq_true rfl) (fun hp10 => ?_)
      change G Z C a7.2 49 [(6, .int a7.1), (5, .ref (za Z w6)), (0, .ref (za Z i0)), (1, .ref (za Z i1)), (2, .ref (za Z i2)), (3, .int p3), (4, .int p4)] [.int q9, .ref (za Z i1)]
      obtain ⟨q11, hq11, hf⟩ := k_obd hN7 hf
      refine g_callV (rest := []) O dX8_say_49 (ct_X0_wordAt hZ h1 hq11) vx_RX8_54 h1 rfl rfl (by decide) (Nat.le_of_ble_eq_true rfl) (fun hp12 => ?_)
      refine k_ocs hf (fun he hf1 => ?_) (fun w13 he hf1 => ?_)
      · subst he
        have hf := hf1
        change G Z C a7.2 52 [(6, .int a7.1), (5, .ref (za Z w6)), (0, .ref (za Z i0)), (1, .ref (za Z i1)), (2, .ref (za Z i2)), (3, .int p3), (4, .int p4)] [.null]
        refine g_astoreN O dX8_say_52 (by decide) [(7, .null), (6, .int a7.1), (5, .ref (za Z w6)), (0, .ref (za Z i0)), (1, .ref (za Z i1)), (2, .ref (za Z i2)), (3, .int p3), (4, .int p4)] rfl ?_
        refine g_aloadN O dX8_say_54 0 rfl ?_
        refine g_ifnonnullN O dX8_say_56 ?_
        have hf := hX7 _ hf
        refine g_aload_n O dX8_say_59 3 rfl rfl ?_
        refine g_getR O dX8_say_60 fx_RX8_20 h0 ?_
        obtain ⟨q14, hq14, hf⟩ := k_obd hN hf
        refine g_callV (rest := []) O dX8_say_63 (ct_X5_clear hZ (kf_8_1 h0) hq14) vx_RX8_27 (kf_8_1 h0) rfl rfl (by decide) (Nat.le_of_ble_eq_true rfl) (fun hp15 => ?_)
        change G Z C q14 66 [(7, .null), (6, .int a7.1), (5, .ref (za Z w6)), (0, .ref (za Z i0)), (1, .ref (za Z i1)), (2, .ref (za Z i2)), (3, .int p3), (4, .int p4)] []
        refine g_aload_n O dX8_say_66 3 rfl rfl ?_
        refine g_iconst O dX8_say_67 (0 : Int32) (by decide) ?_
        refine g_putI O dX8_say_68 fp_RX8_30 h0 hf (fun m16 hf => ?_)
        refine g_iconst O dX8_say_71 (0 : Int32) (by decide) ?_
        exact hR _ _ hf (Or.inl rfl) _ _ dX8_say_72
      · subst he
        have hf := hf1
        change G Z C a7.2 52 [(6, .int a7.1), (5, .ref (za Z w6)), (0, .ref (za Z i0)), (1, .ref (za Z i1)), (2, .ref (za Z i2)), (3, .int p3), (4, .int p4)] [.ref (za Z w13)]
        refine g_astoreP O dX8_say_52 (by decide) [(7, .ref (za Z w13)), (6, .int a7.1), (5, .ref (za Z w6)), (0, .ref (za Z i0)), (1, .ref (za Z i1)), (2, .ref (za Z i2)), (3, .int p3), (4, .int p4)] rfl ?_
        refine g_aload O dX8_say_54 0 rfl ?_
        refine g_ifnonnullR 73 O dX8_say_56 (by decide) ?_
        refine g_aload_n O dX8_say_73 4 rfl rfl ?_
        refine g_aload O dX8_say_74 0 rfl ?_
        refine g_aload_n O dX8_say_76 4 rfl rfl ?_
        refine g_aload_n O dX8_say_77 5 rfl rfl ?_
        refine g_iload O dX8_say_78 1 rfl ?_
        refine g_iload O dX8_say_80 7 rfl ?_
        obtain ⟨q17, hq17, hf⟩ := k_obd hN7 hf
        refine g_callS (rest := [.ref (za Z w13), .ref (za Z i1)]) O dX8_say_82 (ct_X8_agreement hZ h1 h2 hq17) sx_RX8_58 rfl rfl (by decide) (Nat.le_of_ble_eq_true rfl) (fun hp18 => ?_)
        change G Z C a7.2 85 [(7, .ref (za Z w13)), (6, .int a7.1), (5, .ref (za Z w6)), (0, .ref (za Z i0)), (1, .ref (za Z i1)), (2, .ref (za Z i2)), (3, .int p3), (4, .int p4)] [.int q17, .ref (za Z w13), .ref (za Z i1)]
        refine g_iload_n O dX8_say_85 6 rfl rfl ?_
        refine g_bipush O dX8_say_86 (24 : Int32) (by decide) ?_
        refine g_imul O dX8_say_88 ?_
        refine g_iadd O dX8_say_89 ?_
        refine g_aload_n O dX8_say_90 3 rfl rfl ?_
        refine g_getR O dX8_say_91 fx_RX8_14 h0 ?_
        obtain ⟨q19, hq19, hf⟩ := k_obd hN7 hf
        refine g_callV (rest := []) O dX8_say_94 (ct_X0_spell hZ h1 (hp12 _ rfl) (kf_8_0 h0) hq19) vx_RX8_62 h1 rfl rfl (by decide) (Nat.le_of_ble_eq_true rfl) (fun hp20 => ?_)
        change G Z C q19 97 [(7, .ref (za Z w13)), (6, .int a7.1), (5, .ref (za Z w6)), (0, .ref (za Z i0)), (1, .ref (za Z i1)), (2, .ref (za Z i2)), (3, .int p3), (4, .int p4)] []
        refine g_aload_n O dX8_say_97 3 rfl rfl ?_
        obtain ⟨q21, hq21, hf⟩ := k_obd hN7 hf
        refine g_callV (rest := []) O dX8_say_98 (ct_X8_addSpelled hZ h0 hq21) vx_RX8_66 h0 rfl rfl (by decide) (Nat.le_of_ble_eq_true rfl) (fun hp22 => ?_)
        change G Z C q21 101 [(7, .ref (za Z w13)), (6, .int a7.1), (5, .ref (za Z w6)), (0, .ref (za Z i0)), (1, .ref (za Z i1)), (2, .ref (za Z i2)), (3, .int p3), (4, .int p4)] []
        refine g_iinc O dX8_say_101 1 rfl (by decide) (1) (by decide) (fun y => [(6, .int y), (7, .ref (za Z w13)), (5, .ref (za Z w6)), (0, .ref (za Z i0)), (1, .ref (za Z i1)), (2, .ref (za Z i2)), (3, .int p3), (4, .int p4)]) (fun _ => rfl) hf (fun x23 hf => ?_)
        refine g_goto 32 O dX8_say_104 (by decide) ?_
        refine g_sub [0, 2, 3, 4, 5, 6, 7] rfl ?_
        exact hI7 _ hf

set_option maxHeartbeats 4000000 in
set_option maxRecDepth 100000 in
theorem ct_X8_lengthOf {Z : ZT} (hZ : ZOk Z) {σ : Mem} {i0 : Nat} {p1 : Int32} (h0 : kn i0 = 8) {r : Int32} (hf : fX8_lengthOf σ i0 p1 = some r) : Ct Z yX8_lengthOf cX8_lengthOf 2 (some .int) 1 21 [.ref (za Z i0), .int p1] σ (some (.int r)) True σ := by
  refine ct_i hZ (by decide +kernel) (Nat.le_of_ble_eq_true rfl) hf (fun C K O hN hR hf => ?_)
  have O : Ok Z C RX8 cX8_lengthOf 2 1 21 := O
  change G Z C σ 0 [(0, .ref (za Z i0)), (1, .int p1)] []
  unfold fX8_lengthOf at hf
  refine g_iload_n O dX8_lengthOf_0 1 rfl rfl ?_
  refine g_aload_n O dX8_lengthOf_1 0 rfl rfl ?_
  refine g_getI O dX8_lengthOf_2 fx_RX8_30 h0 ?_
  obtain ⟨q1, hq1, hf⟩ := k_obd hN hf
  refine g_callS (rest := []) O dX8_lengthOf_5 (ct_X11_isBelow hZ  hq1) sx_RX8_69 rfl rfl (by decide) (Nat.le_of_ble_eq_true rfl) (fun hp2 => ?_)
  change G Z C σ 8 [(0, .ref (za Z i0)), (1, .int p1)] [.int q1]
  refine g_if_eq 26 O dX8_lengthOf_8 (by decide) hf (fun c3 hf => ?_) (fun c3 hf => ?_)
  · refine g_iconst O dX8_lengthOf_26 (-1 : Int32) (by decide) ?_
    exact hR _ hf _ _ dX8_lengthOf_27
  · refine g_iload_n O dX8_lengthOf_11 1 rfl rfl ?_
    refine g_bipush O dX8_lengthOf_12 (6 : Int32) (by decide) ?_
    refine g_icmp_ge 26 O dX8_lengthOf_14 (by decide) hf (fun c4 hf => ?_) (fun c4 hf => ?_)
    · refine g_iconst O dX8_lengthOf_26 (-1 : Int32) (by decide) ?_
      exact hR _ hf _ _ dX8_lengthOf_27
    · refine g_aload_n O dX8_lengthOf_17 0 rfl rfl ?_
      refine g_getR O dX8_lengthOf_18 fx_RX8_23 h0 ?_
      refine g_iload_n O dX8_lengthOf_21 1 rfl rfl ?_
      refine g_iald O hN dX8_lengthOf_22 (kf_8_2 h0) hf (fun hf => ?_)
      refine g_goto 27 O dX8_lengthOf_23 (by decide) ?_
      exact hR _ hf _ _ dX8_lengthOf_27

set_option maxHeartbeats 4000000 in
set_option maxRecDepth 100000 in
theorem ct_X8_timeBy {Z : ZT} (hZ : ZOk Z) {σ : Mem} {i0 : Nat} {p1 : Int32} (h0 : kn i0 = 8) {r : UInt32} (hf : fX8_timeBy σ i0 p1 = some r) : Ct Z yX8_timeBy cX8_timeBy 6 (some .float) 1 21 [.ref (za Z i0), .int p1] σ (some (.float r)) True σ := by
  refine ct_f hZ (by decide +kernel) (Nat.le_of_ble_eq_true rfl) hf (fun C K O hN hR hf => ?_)
  have O : Ok Z C RX8 cX8_timeBy 6 1 21 := O
  change G Z C σ 0 [(0, .ref (za Z i0)), (1, .int p1)] []
  unfold fX8_timeBy at hf
  refine g_fconst0 O dX8_timeBy_0 ?_
  refine g_fstore_nP O dX8_timeBy_1 rfl (by decide) [(2, .float FP.fconst0), (0, .ref (za Z i0)), (1, .int p1)] rfl ?_
  refine g_iconst O dX8_timeBy_2 (0 : Int32) (by decide) ?_
  refine g_istore_nP O dX8_timeBy_3 rfl (by decide) [(3, .int (0 : Int32)), (2, .float FP.fconst0), (0, .ref (za Z i0)), (1, .int p1)] rfl ?_
  refine g_lp hN (fun (a1 : Int32 × UInt32) => G Z C σ 4 [(3, .int a1.1), (2, .float a1.2), (0, .ref (za Z i0)), (1, .int p1)] []) hf (fun a1 _ hN1 hI1 hX1 hf => ?_)
  unfold sX8_timeBy_4 at hf
  refine g_iload_n O dX8_timeBy_4 0 rfl rfl ?_
  refine g_aload_n O dX8_timeBy_5 2 rfl rfl ?_
  refine g_getR O dX8_timeBy_6 fx_RX8_20 h0 ?_
  refine g_getI O dX8_timeBy_9 fx_RX8_73 (kf_8_1 h0) ?_
  refine g_icmp_ge 97 O dX8_timeBy_12 (by decide) hf (fun c2 hf => ?_) (fun c2 hf => ?_)
  · have hf := hX1 _ hf
    refine g_fload_n O dX8_timeBy_97 1 rfl rfl ?_
    exact hR _ hf _ _ dX8_timeBy_98
  · refine g_aload_n O dX8_timeBy_15 2 rfl rfl ?_
    refine g_getR O dX8_timeBy_16 fx_RX8_20 h0 ?_
    refine g_iload_n O dX8_timeBy_19 0 rfl rfl ?_
    obtain ⟨q3, hq3, hf⟩ := k_obd hN1 hf
    refine g_callV (rest := []) O dX8_timeBy_20 (ct_X5_at hZ (kf_8_1 h0) hq3) vx_RX8_74 (kf_8_1 h0) rfl rfl (by decide) (Nat.le_of_ble_eq_true rfl) (fun hp4 => ?_)
    change G Z C σ 23 [(3, .int a1.1), (2, .float a1.2), (0, .ref (za Z i0)), (1, .int p1)] [.int q3]
    refine g_istoreP O dX8_timeBy_23 (by decide) [(4, .int q3), (3, .int a1.1), (2, .float a1.2), (0, .ref (za Z i0)), (1, .int p1)] rfl ?_
    refine g_iload O dX8_timeBy_25 0 rfl ?_
    refine g_bipush O dX8_timeBy_27 (32 : Int32) (by decide) ?_
    refine g_jn (fun (y5 : UInt32) => G Z C σ 52 [(4, .int q3), (3, .int a1.1), (2, .float a1.2), (0, .ref (za Z i0)), (1, .int p1)] [.float y5]) hf (fun y5 hf => ?_) (fun k5 hk5 hf => ?_)
    · refine g_fstoreP O dX8_timeBy_52 (by decide) [(5, .float y5), (4, .int q3), (3, .int a1.1), (2, .float a1.2), (0, .ref (za Z i0)), (1, .int p1)] rfl ?_
      refine g_iload O dX8_timeBy_54 1 rfl ?_
      refine g_bipush O dX8_timeBy_56 (32 : Int32) (by decide) ?_
      refine g_icmp_eq 83 O dX8_timeBy_58 (by decide) hf (fun c6 hf => ?_) (fun c6 hf => ?_)
      · refine g_fload_n O dX8_timeBy_83 3 rfl rfl ?_
        refine g_fload O dX8_timeBy_84 0 rfl ?_
        refine g_iload_n O dX8_timeBy_86 5 rfl rfl ?_
        refine g_i2f O dX8_timeBy_87 ?_
        refine g_fdiv O hN1 dX8_timeBy_88 hf (fun hf => ?_)
        refine g_fadd O hN1 dX8_timeBy_89 hf (fun hf => ?_)
        refine g_fstore_n O dX8_timeBy_90 rfl (by decide) (fun y => [(2, .float y), (5, .float y5), (4, .int q3), (3, .int a1.1), (0, .ref (za Z i0)), (1, .int p1)]) (fun _ => rfl) hf (fun x7 hf => ?_)
        refine g_iinc O dX8_timeBy_91 3 rfl (by decide) (1) (by decide) (fun y => [(3, .int y), (2, .float x7), (5, .float y5), (4, .int q3), (0, .ref (za Z i0)), (1, .int p1)]) (fun _ => rfl) hf (fun x8 hf => ?_)
        refine g_goto 4 O dX8_timeBy_94 (by decide) ?_
        refine g_sub [0, 1, 4, 5] rfl ?_
        exact hI1 _ hf
      · refine g_iload O dX8_timeBy_61 1 rfl ?_
        refine g_aload_n O dX8_timeBy_63 4 rfl rfl ?_
        refine g_getR O dX8_timeBy_64 fx_RX8_20 h0 ?_
        refine g_iload_n O dX8_timeBy_67 2 rfl rfl ?_
        refine g_iconst O dX8_timeBy_68 (1 : Int32) (by decide) ?_
        refine g_isub O dX8_timeBy_69 ?_
        obtain ⟨q9, hq9, hf⟩ := k_obd hN1 hf
        refine g_callV (rest := [.int q3]) O dX8_timeBy_70 (ct_X5_at hZ (kf_8_1 h0) hq9) vx_RX8_74 (kf_8_1 h0) rfl rfl (by decide) (Nat.le_of_ble_eq_true rfl) (fun hp10 => ?_)
        change G Z C σ 73 [(5, .float y5), (4, .int q3), (3, .int a1.1), (2, .float a1.2), (0, .ref (za Z i0)), (1, .int p1)] [.int q9, .int q3]
        refine g_icmp_ne 83 O dX8_timeBy_73 (by decide) hf (fun c11 hf => ?_) (fun c11 hf => ?_)
        · refine g_fload O dX8_timeBy_76 0 rfl ?_
          refine g_ldcf O dX8_timeBy_78 lc_RX8_84 ?_
          refine g_fmul O hN1 dX8_timeBy_80 hf (fun hf => ?_)
          refine g_fstore O dX8_timeBy_81 (by decide) (fun y => [(5, .float y), (4, .int q3), (3, .int a1.1), (2, .float a1.2), (0, .ref (za Z i0)), (1, .int p1)]) (fun _ => rfl) hf (fun x12 hf => ?_)
          refine g_fload_n O dX8_timeBy_83 3 rfl rfl ?_
          refine g_fload O dX8_timeBy_84 0 rfl ?_
          refine g_iload_n O dX8_timeBy_86 5 rfl rfl ?_
          refine g_i2f O dX8_timeBy_87 ?_
          refine g_fdiv O hN1 dX8_timeBy_88 hf (fun hf => ?_)
          refine g_fadd O hN1 dX8_timeBy_89 hf (fun hf => ?_)
          refine g_fstore_n O dX8_timeBy_90 rfl (by decide) (fun y => [(2, .float y), (5, .float x12), (4, .int q3), (3, .int a1.1), (0, .ref (za Z i0)), (1, .int p1)]) (fun _ => rfl) hf (fun x13 hf => ?_)
          refine g_iinc O dX8_timeBy_91 3 rfl (by decide) (1) (by decide) (fun y => [(3, .int y), (2, .float x13), (5, .float x12), (4, .int q3), (0, .ref (za Z i0)), (1, .int p1)]) (fun _ => rfl) hf (fun x14 hf => ?_)
          refine g_goto 4 O dX8_timeBy_94 (by decide) ?_
          refine g_sub [0, 1, 4, 5] rfl ?_
          exact hI1 _ hf
        · refine g_fload_n O dX8_timeBy_83 3 rfl rfl ?_
          refine g_fload O dX8_timeBy_84 0 rfl ?_
          refine g_iload_n O dX8_timeBy_86 5 rfl rfl ?_
          refine g_i2f O dX8_timeBy_87 ?_
          refine g_fdiv O hN1 dX8_timeBy_88 hf (fun hf => ?_)
          refine g_fadd O hN1 dX8_timeBy_89 hf (fun hf => ?_)
          refine g_fstore_n O dX8_timeBy_90 rfl (by decide) (fun y => [(2, .float y), (5, .float y5), (4, .int q3), (3, .int a1.1), (0, .ref (za Z i0)), (1, .int p1)]) (fun _ => rfl) hf (fun x15 hf => ?_)
          refine g_iinc O dX8_timeBy_91 3 rfl (by decide) (1) (by decide) (fun y => [(3, .int y), (2, .float x15), (5, .float y5), (4, .int q3), (0, .ref (za Z i0)), (1, .int p1)]) (fun _ => rfl) hf (fun x16 hf => ?_)
          refine g_goto 4 O dX8_timeBy_94 (by decide) ?_
          refine g_sub [0, 1, 4, 5] rfl ?_
          exact hI1 _ hf
    · skip
      refine g_icmp_ne 37 O dX8_timeBy_29 (by decide) hf (fun c17 hf => ?_) (fun c17 hf => ?_)
      · refine g_ldcf O dX8_timeBy_32 lc_RX8_77 ?_
        refine g_goto 52 O dX8_timeBy_34 (by decide) ?_
        exact hk5 _ hf
      · refine g_iload O dX8_timeBy_37 0 rfl ?_
        obtain ⟨q18, hq18, hf⟩ := k_obd hN1 hf
        refine g_callS (rest := []) O dX8_timeBy_39 (ct_X5_isVowel hZ  hq18) sx_RX8_78 rfl rfl (by decide) (Nat.le_of_ble_eq_true rfl) (fun hp19 => ?_)
        change G Z C σ 42 [(4, .int q3), (3, .int a1.1), (2, .float a1.2), (0, .ref (za Z i0)), (1, .int p1)] [.int q18]
        refine g_if_eq 50 O dX8_timeBy_42 (by decide) hf (fun c20 hf => ?_) (fun c20 hf => ?_)
        · refine g_ldcf O dX8_timeBy_50 lc_RX8_83 ?_
          exact hk5 _ hf
        · refine g_ldcf O dX8_timeBy_45 lc_RX8_82 ?_
          refine g_goto 52 O dX8_timeBy_47 (by decide) ?_
          exact hk5 _ hf

