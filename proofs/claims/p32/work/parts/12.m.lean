set_option maxHeartbeats 4000000 in
set_option maxRecDepth 100000 in
theorem ct_X3_caseOf {Z : ZT} (hZ : ZOk Z) {σ : Mem} {i0 : Nat} {p1 : Int32} (h0 : kn i0 = 3) {r : Int32} (hf : fX3_caseOf σ i0 p1 = some r) : Ct Z yX3_caseOf cX3_caseOf 2 (some .int) 1 21 [.ref (za Z i0), .int p1] σ (some (.int r)) True σ := by
  refine ct_i hZ (by decide +kernel) (Nat.le_of_ble_eq_true rfl) hf (fun C K O hN hR hf => ?_)
  have O : Ok Z C RX3 cX3_caseOf 2 1 21 := O
  change G Z C σ 0 [(0, .ref (za Z i0)), (1, .int p1)] []
  unfold fX3_caseOf at hf
  refine g_aload_n O dX3_caseOf_0 0 rfl rfl ?_
  refine g_iload_n O dX3_caseOf_1 1 rfl rfl ?_
  obtain ⟨q1, hq1, hf⟩ := k_obd hN hf
  refine g_callV (rest := []) O dX3_caseOf_2 (ct_X3_has hZ h0 hq1) vx_RX3_47 h0 rfl rfl (by decide) (Nat.le_of_ble_eq_true rfl) (fun hp2 => ?_)
  change G Z C σ 5 [(0, .ref (za Z i0)), (1, .int p1)] [.int q1]
  refine g_if_eq 17 O dX3_caseOf_5 (by decide) hf (fun c3 hf => ?_) (fun c3 hf => ?_)
  · refine g_iconst O dX3_caseOf_17 (-1 : Int32) (by decide) ?_
    exact hR _ hf _ _ dX3_caseOf_18
  · refine g_aload_n O dX3_caseOf_8 0 rfl rfl ?_
    refine g_getR O dX3_caseOf_9 fx_RX3_18 h0 ?_
    refine g_iload_n O dX3_caseOf_12 1 rfl rfl ?_
    refine g_iald O hN dX3_caseOf_13 (kf_3_3 h0) hf (fun hf => ?_)
    refine g_goto 18 O dX3_caseOf_14 (by decide) ?_
    exact hR _ hf _ _ dX3_caseOf_18

set_option maxHeartbeats 4000000 in
set_option maxRecDepth 100000 in
theorem ct_X3_nounOf {Z : ZT} (hZ : ZOk Z) {σ : Mem} {i0 : Nat} {p1 : Int32} (h0 : kn i0 = 3) {r : Int32} (hf : fX3_nounOf σ i0 p1 = some r) : Ct Z yX3_nounOf cX3_nounOf 2 (some .int) 1 21 [.ref (za Z i0), .int p1] σ (some (.int r)) True σ := by
  refine ct_i hZ (by decide +kernel) (Nat.le_of_ble_eq_true rfl) hf (fun C K O hN hR hf => ?_)
  have O : Ok Z C RX3 cX3_nounOf 2 1 21 := O
  change G Z C σ 0 [(0, .ref (za Z i0)), (1, .int p1)] []
  unfold fX3_nounOf at hf
  refine g_iload_n O dX3_nounOf_0 1 rfl rfl ?_
  refine g_iconst O dX3_nounOf_1 (3 : Int32) (by decide) ?_
  obtain ⟨q1, hq1, hf⟩ := k_obd hN hf
  refine g_callS (rest := []) O dX3_nounOf_2 (ct_X11_isBelow hZ  hq1) sx_RX3_37 rfl rfl (by decide) (Nat.le_of_ble_eq_true rfl) (fun hp2 => ?_)
  change G Z C σ 5 [(0, .ref (za Z i0)), (1, .int p1)] [.int q1]
  refine g_if_eq 17 O dX3_nounOf_5 (by decide) hf (fun c3 hf => ?_) (fun c3 hf => ?_)
  · refine g_iconst O dX3_nounOf_17 (-1 : Int32) (by decide) ?_
    exact hR _ hf _ _ dX3_nounOf_18
  · refine g_aload_n O dX3_nounOf_8 0 rfl rfl ?_
    refine g_getR O dX3_nounOf_9 fx_RX3_24 h0 ?_
    refine g_iload_n O dX3_nounOf_12 1 rfl rfl ?_
    refine g_iald O hN dX3_nounOf_13 (kf_3_5 h0) hf (fun hf => ?_)
    refine g_goto 18 O dX3_nounOf_14 (by decide) ?_
    exact hR _ hf _ _ dX3_nounOf_18

set_option maxHeartbeats 4000000 in
set_option maxRecDepth 100000 in
theorem ct_X3_isWhole {Z : ZT} (hZ : ZOk Z) {σ : Mem} {i0 : Nat} (h0 : kn i0 = 3) {r : Int32} (hf : fX3_isWhole σ i0 = some r) : Ct Z yX3_isWhole cX3_isWhole 2 (some .boolean) 2 42 [.ref (za Z i0)] σ (some (.int r)) (r = 0 ∨ r = 1) σ := by
  refine ct_z hZ (by decide +kernel) (Nat.le_of_ble_eq_true rfl) hf (fun C K O hN hR hf => ?_)
  have O : Ok Z C RX3 cX3_isWhole 2 2 42 := O
  change G Z C σ 0 [(0, .ref (za Z i0))] []
  unfold fX3_isWhole at hf
  refine g_iconst O dX3_isWhole_0 (0 : Int32) (by decide) ?_
  refine g_istore_nP O dX3_isWhole_1 rfl (by decide) [(1, .int (0 : Int32)), (0, .ref (za Z i0))] rfl ?_
  refine g_lp hN (fun (a1 : Int32) => G Z C σ 2 [(1, .int a1), (0, .ref (za Z i0))] []) hf (fun a1 _ hN1 hI1 hX1 hf => ?_)
  unfold sX3_isWhole_2 at hf
  refine g_iload_n O dX3_isWhole_2 0 rfl rfl ?_
  refine g_aload_n O dX3_isWhole_3 1 rfl rfl ?_
  refine g_getI O dX3_isWhole_4 fx_RX3_27 h0 ?_
  refine g_icmp_ge 40 O dX3_isWhole_7 (by decide) hf (fun c2 hf => ?_) (fun c2 hf => ?_)
  · have hf := hX1 _ hf
    refine g_aload_n O dX3_isWhole_40 1 rfl rfl ?_
    refine g_getI O dX3_isWhole_41 fx_RX3_27 h0 ?_
    refine g_if_le 51 O dX3_isWhole_44 (by decide) hf (fun c3 hf => ?_) (fun c3 hf => ?_)
    · refine g_iconst O dX3_isWhole_51 (0 : Int32) (by decide) ?_
      exact hR _ hf (Or.inl rfl) _ _ dX3_isWhole_52
    · refine g_iconst O dX3_isWhole_47 (1 : Int32) (by decide) ?_
      refine g_goto 52 O dX3_isWhole_48 (by decide) ?_
      exact hR _ hf (Or.inr rfl) _ _ dX3_isWhole_52
  · refine g_aload_n O dX3_isWhole_10 1 rfl rfl ?_
    refine g_iload_n O dX3_isWhole_11 0 rfl rfl ?_
    obtain ⟨q4, hq4, hf⟩ := k_obd hN1 hf
    refine g_callV (rest := []) O dX3_isWhole_12 (ct_X3_groupOf hZ h0 hq4) vx_RX3_51 h0 rfl rfl (by decide) (Nat.le_of_ble_eq_true rfl) (fun hp5 => ?_)
    change G Z C σ 15 [(1, .int a1), (0, .ref (za Z i0))] [.int q4]
    refine g_iconst O dX3_isWhole_15 (-1 : Int32) (by decide) ?_
    refine g_icmp_eq 34 O dX3_isWhole_16 (by decide) hf (fun c6 hf => ?_) (fun c6 hf => ?_)
    · refine g_iinc O dX3_isWhole_34 0 rfl (by decide) (1) (by decide) (fun y => [(1, .int y), (0, .ref (za Z i0))]) (fun _ => rfl) hf (fun x7 hf => ?_)
      refine g_goto 2 O dX3_isWhole_37 (by decide) ?_
      exact hI1 _ hf
    · refine g_aload_n O dX3_isWhole_19 1 rfl rfl ?_
      refine g_aload_n O dX3_isWhole_20 1 rfl rfl ?_
      refine g_iload_n O dX3_isWhole_21 0 rfl rfl ?_
      obtain ⟨q8, hq8, hf⟩ := k_obd hN1 hf
      refine g_callV (rest := [.ref (za Z i0)]) O dX3_isWhole_22 (ct_X3_groupOf hZ h0 hq8) vx_RX3_51 h0 rfl rfl (by decide) (Nat.le_of_ble_eq_true rfl) (fun hp9 => ?_)
      change G Z C σ 25 [(1, .int a1), (0, .ref (za Z i0))] [.int q8, .ref (za Z i0)]
      obtain ⟨q10, hq10, hf⟩ := k_obd hN1 hf
      refine g_callV (rest := []) O dX3_isWhole_25 (ct_X3_nounOf hZ h0 hq10) vx_RX3_55 h0 rfl rfl (by decide) (Nat.le_of_ble_eq_true rfl) (fun hp11 => ?_)
      change G Z C σ 28 [(1, .int a1), (0, .ref (za Z i0))] [.int q10]
      refine g_iconst O dX3_isWhole_28 (-1 : Int32) (by decide) ?_
      refine g_icmp_ne 34 O dX3_isWhole_29 (by decide) hf (fun c12 hf => ?_) (fun c12 hf => ?_)
      · have hf := hX1 _ hf
        refine g_iconst O dX3_isWhole_32 (0 : Int32) (by decide) ?_
        exact hR _ hf (Or.inl rfl) _ _ dX3_isWhole_33
      · refine g_iinc O dX3_isWhole_34 0 rfl (by decide) (1) (by decide) (fun y => [(1, .int y), (0, .ref (za Z i0))]) (fun _ => rfl) hf (fun x13 hf => ?_)
        refine g_goto 2 O dX3_isWhole_37 (by decide) ?_
        exact hI1 _ hf

set_option maxHeartbeats 4000000 in
set_option maxRecDepth 100000 in
theorem ct_X4_digit {Z : ZT} (hZ : ZOk Z) {σ : Mem} {i0 : Nat} {p1 : Int32} {p2 : Int32} (h0 : kn i0 = 5) {r : Int32} (hf : fX4_digit σ i0 p1 p2 = some r) : Ct Z yX4_digit cX4_digit 4 (some .int) 1 21 [.ref (za Z i0), .int p1, .int p2] σ (some (.int r)) True σ := by
  refine ct_i hZ (by decide +kernel) (Nat.le_of_ble_eq_true rfl) hf (fun C K O hN hR hf => ?_)
  have O : Ok Z C RX4 cX4_digit 4 1 21 := O
  change G Z C σ 0 [(0, .ref (za Z i0)), (1, .int p1), (2, .int p2)] []
  unfold fX4_digit at hf
  refine g_aload_n O dX4_digit_0 0 rfl rfl ?_
  refine g_iload_n O dX4_digit_1 1 rfl rfl ?_
  obtain ⟨q1, hq1, hf⟩ := k_obd hN hf
  refine g_callV (rest := []) O dX4_digit_2 (ct_X5_at hZ h0 hq1) vx_RX4_42 h0 rfl rfl (by decide) (Nat.le_of_ble_eq_true rfl) (fun hp2 => ?_)
  change G Z C σ 5 [(0, .ref (za Z i0)), (1, .int p1), (2, .int p2)] [.int q1]
  refine g_bipush O dX4_digit_5 (48 : Int32) (by decide) ?_
  refine g_isub O dX4_digit_7 ?_
  refine g_istore_n O dX4_digit_8 rfl (by decide) (fun y => [(3, .int y), (0, .ref (za Z i0)), (1, .int p1), (2, .int p2)]) (fun _ => rfl) hf (fun x3 hf => ?_)
  refine g_iload_n O dX4_digit_9 0 rfl rfl ?_
  refine g_iload_n O dX4_digit_10 3 rfl rfl ?_
  obtain ⟨q4, hq4, hf⟩ := k_obd hN hf
  refine g_callS (rest := []) O dX4_digit_11 (ct_X11_isBelow hZ  hq4) sx_RX4_79 rfl rfl (by decide) (Nat.le_of_ble_eq_true rfl) (fun hp5 => ?_)
  change G Z C σ 14 [(3, .int x3), (0, .ref (za Z i0)), (1, .int p1), (2, .int p2)] [.int q4]
  refine g_if_eq 21 O dX4_digit_14 (by decide) hf (fun c6 hf => ?_) (fun c6 hf => ?_)
  · refine g_iconst O dX4_digit_21 (-1 : Int32) (by decide) ?_
    exact hR _ hf _ _ dX4_digit_22
  · refine g_iload_n O dX4_digit_17 0 rfl rfl ?_
    refine g_goto 22 O dX4_digit_18 (by decide) ?_
    exact hR _ hf _ _ dX4_digit_22

set_option maxHeartbeats 4000000 in
set_option maxRecDepth 100000 in
theorem ct_X4_readGrouped {Z : ZT} (hZ : ZOk Z) {σ : Mem} {i0 : Nat} {p1 : Int32} {i2 : Nat} (h0 : kn i0 = 4) (h2 : kn i2 = 5) {r : (Int32 × Mem)} (hf : fX4_readGrouped σ i0 p1 i2 = some r) : Ct Z yX4_readGrouped cX4_readGrouped 5 (some .boolean) 2 45 [.ref (za Z i0), .int p1, .ref (za Z i2)] σ (some (.int r.1)) (r.1 = 0 ∨ r.1 = 1) r.2 := by
  refine ct_zm hZ (by decide +kernel) (Nat.le_of_ble_eq_true rfl) hf (fun C K O hN hR hf => ?_)
  have O : Ok Z C RX4 cX4_readGrouped 5 2 45 := O
  change G Z C σ 0 [(0, .ref (za Z i0)), (1, .int p1), (2, .ref (za Z i2))] []
  unfold fX4_readGrouped at hf
  refine g_aload_n O dX4_readGrouped_0 2 rfl rfl ?_
  refine g_aload_n O dX4_readGrouped_1 0 rfl rfl ?_
  refine g_getI O dX4_readGrouped_2 fx_RX4_21 h0 ?_
  refine g_iconst O dX4_readGrouped_5 (3 : Int32) (by decide) ?_
  obtain ⟨q1, hq1, hf⟩ := k_obd hN hf
  refine g_callS (rest := []) O dX4_readGrouped_6 (ct_X4_digit hZ h2 hq1) sx_RX4_57 rfl rfl (by decide) (Nat.le_of_ble_eq_true rfl) (fun hp2 => ?_)
  change G Z C σ 9 [(0, .ref (za Z i0)), (1, .int p1), (2, .ref (za Z i2))] [.int q1]
  refine g_istore_nP O dX4_readGrouped_9 rfl (by decide) [(3, .int q1), (0, .ref (za Z i0)), (1, .int p1), (2, .ref (za Z i2))] rfl ?_
  refine g_iload_n O dX4_readGrouped_10 0 rfl rfl ?_
  refine g_iconst O dX4_readGrouped_11 (-1 : Int32) (by decide) ?_
  refine g_icmp_eq 31 O dX4_readGrouped_12 (by decide) hf (fun c3 hf => ?_) (fun c3 hf => ?_)
  · refine g_iconst O dX4_readGrouped_31 (0 : Int32) (by decide) ?_
    exact hR _ _ hf (Or.inl rfl) _ _ dX4_readGrouped_32
  · refine g_iload_n O dX4_readGrouped_15 2 rfl rfl ?_
    refine g_jn (fun (y4 : Unit) => G Z C σ 33 [(3, .int q1), (0, .ref (za Z i0)), (1, .int p1), (2, .ref (za Z i2))] []) hf (fun y4 hf => ?_) (fun k4 hk4 hf => ?_)
    · refine g_aload_n O dX4_readGrouped_33 1 rfl rfl ?_
      refine g_dup O dX4_readGrouped_34 rfl ?_
      refine g_getI O dX4_readGrouped_35 fx_RX4_21 h0 ?_
      refine g_iconst O dX4_readGrouped_38 (1 : Int32) (by decide) ?_
      refine g_iadd O dX4_readGrouped_39 ?_
      refine g_putI O dX4_readGrouped_40 fp_RX4_21 h0 hf (fun m5 hf => ?_)
      refine g_iconst O dX4_readGrouped_43 (-1 : Int32) (by decide) ?_
      refine g_istoreP O dX4_readGrouped_44 (by decide) [(4, .int (-1 : Int32)), (3, .int q1), (0, .ref (za Z i0)), (1, .int p1), (2, .ref (za Z i2))] rfl ?_
      refine g_iload_n O dX4_readGrouped_46 3 rfl rfl ?_
      refine g_iconst O dX4_readGrouped_47 (1 : Int32) (by decide) ?_
      refine g_jn (fun (y6 : Int32 × Mem) => G Z C y6.2 80 [(3, .int q1), (0, .ref (za Z i0)), (1, .int p1), (4, .int y6.1)] []) hf (fun y6 hf => ?_) (fun k6 hk6 hf => ?_)
      · refine g_aload_n O dX4_readGrouped_80 1 rfl rfl ?_
        refine g_getR O dX4_readGrouped_81 fx_RX4_12 h0 ?_
        refine g_iload_n O dX4_readGrouped_84 2 rfl rfl ?_
        refine g_iload_n O dX4_readGrouped_85 0 rfl rfl ?_
        refine g_iload O dX4_readGrouped_86 3 rfl ?_
        refine g_iconst O dX4_readGrouped_88 (-1 : Int32) (by decide) ?_
        obtain ⟨q7, hq7, hf⟩ := k_obd hN hf
        refine g_callV (rest := []) O dX4_readGrouped_89 (ct_X3_add hZ (kf_4_0 h0) hq7) vx_RX4_64 (kf_4_0 h0) rfl rfl (by decide) (Nat.le_of_ble_eq_true rfl) (fun hp8 => ?_)
        change G Z C q7 92 [(3, .int q1), (0, .ref (za Z i0)), (1, .int p1), (4, .int y6.1)] []
        refine g_iconst O dX4_readGrouped_92 (1 : Int32) (by decide) ?_
        exact hR _ _ hf (Or.inr rfl) _ _ dX4_readGrouped_93
      · skip
        refine g_icmp_eq 80 O dX4_readGrouped_48 (by decide) hf (fun c9 hf => ?_) (fun c9 hf => ?_)
        · refine g_sub [1, 2, 3, 0] rfl ?_
          exact hk6 _ hf
        · refine g_aload_n O dX4_readGrouped_51 4 rfl rfl ?_
          refine g_aload_n O dX4_readGrouped_52 2 rfl rfl ?_
          refine g_getI O dX4_readGrouped_53 fx_RX4_21 h0 ?_
          refine g_iconst O dX4_readGrouped_56 (4 : Int32) (by decide) ?_
          obtain ⟨q10, hq10, hf⟩ := k_obd hN hf
          refine g_callS (rest := []) O dX4_readGrouped_57 (ct_X4_digit hZ h2 hq10) sx_RX4_57 rfl rfl (by decide) (Nat.le_of_ble_eq_true rfl) (fun hp11 => ?_)
          change G Z C m5 60 [(4, .int (-1 : Int32)), (3, .int q1), (0, .ref (za Z i0)), (1, .int p1), (2, .ref (za Z i2))] [.int q10]
          refine g_istoreP O dX4_readGrouped_60 (by decide) [(4, .int q10), (3, .int q1), (0, .ref (za Z i0)), (1, .int p1), (2, .ref (za Z i2))] rfl ?_
          refine g_iload O dX4_readGrouped_62 0 rfl ?_
          refine g_iconst O dX4_readGrouped_64 (-1 : Int32) (by decide) ?_
          refine g_icmp_ne 70 O dX4_readGrouped_65 (by decide) hf (fun c12 hf => ?_) (fun c12 hf => ?_)
          · refine g_iconst O dX4_readGrouped_68 (0 : Int32) (by decide) ?_
            exact hR _ _ hf (Or.inl rfl) _ _ dX4_readGrouped_69
          · refine g_aload_n O dX4_readGrouped_70 2 rfl rfl ?_
            refine g_dup O dX4_readGrouped_71 rfl ?_
            refine g_getI O dX4_readGrouped_72 fx_RX4_21 h0 ?_
            refine g_iconst O dX4_readGrouped_75 (1 : Int32) (by decide) ?_
            refine g_iadd O dX4_readGrouped_76 ?_
            refine g_putI O dX4_readGrouped_77 fp_RX4_21 h0 hf (fun m13 hf => ?_)
            refine g_sub [1, 2, 3, 0] rfl ?_
            exact hk6 _ hf
    · skip
      refine g_if_ne 33 O dX4_readGrouped_16 (by decide) hf (fun c14 hf => ?_) (fun c14 hf => ?_)
      · refine g_aload_n O dX4_readGrouped_19 1 rfl rfl ?_
        refine g_getR O dX4_readGrouped_20 fx_RX4_12 h0 ?_
        refine g_iload_n O dX4_readGrouped_23 0 rfl rfl ?_
        obtain ⟨q15, hq15, hf⟩ := k_obd hN hf
        refine g_callV (rest := []) O dX4_readGrouped_24 (ct_X3_nounOf hZ (kf_4_0 h0) hq15) vx_RX4_61 (kf_4_0 h0) rfl rfl (by decide) (Nat.le_of_ble_eq_true rfl) (fun hp16 => ?_)
        change G Z C σ 27 [(3, .int q1), (0, .ref (za Z i0)), (1, .int p1), (2, .ref (za Z i2))] [.int q15]
        refine g_iconst O dX4_readGrouped_27 (-1 : Int32) (by decide) ?_
        refine g_icmp_eq 33 O dX4_readGrouped_28 (by decide) hf (fun c17 hf => ?_) (fun c17 hf => ?_)
        · exact hk4 _ hf
        · refine g_iconst O dX4_readGrouped_31 (0 : Int32) (by decide) ?_
          exact hR _ _ hf (Or.inl rfl) _ _ dX4_readGrouped_32
      · exact hk4 _ hf

set_option maxHeartbeats 4000000 in
set_option maxRecDepth 100000 in
theorem ct_X4_readPlain {Z : ZT} (hZ : ZOk Z) {σ : Mem} {i0 : Nat} {i1 : Nat} {i2 : Nat} (h0 : kn i0 = 4) (h1 : kn i1 = 0) (h2 : kn i2 = 5) {r : (Int32 × Mem)} (hf : fX4_readPlain σ i0 i1 i2 = some r) : Ct Z yX4_readPlain cX4_readPlain 7 (some .boolean) 2 45 [.ref (za Z i0), .ref (za Z i1), .ref (za Z i2)] σ (some (.int r.1)) (r.1 = 0 ∨ r.1 = 1) r.2 := by
  refine ct_zm hZ (by decide +kernel) (Nat.le_of_ble_eq_true rfl) hf (fun C K O hN hR hf => ?_)
  have O : Ok Z C RX4 cX4_readPlain 7 2 45 := O
  change G Z C σ 0 [(0, .ref (za Z i0)), (1, .ref (za Z i1)), (2, .ref (za Z i2))] []
  unfold fX4_readPlain at hf
  refine g_aload_n O dX4_readPlain_0 2 rfl rfl ?_
  refine g_aload_n O dX4_readPlain_1 0 rfl rfl ?_
  refine g_getI O dX4_readPlain_2 fx_RX4_21 h0 ?_
  refine g_bipush O dX4_readPlain_5 (10 : Int32) (by decide) ?_
  obtain ⟨q1, hq1, hf⟩ := k_obd hN hf
  refine g_callS (rest := []) O dX4_readPlain_7 (ct_X4_digit hZ h2 hq1) sx_RX4_57 rfl rfl (by decide) (Nat.le_of_ble_eq_true rfl) (fun hp2 => ?_)
  change G Z C σ 10 [(0, .ref (za Z i0)), (1, .ref (za Z i1)), (2, .ref (za Z i2))] [.int q1]
  refine g_istore_nP O dX4_readPlain_10 rfl (by decide) [(3, .int q1), (0, .ref (za Z i0)), (1, .ref (za Z i1)), (2, .ref (za Z i2))] rfl ?_
  refine g_aload_n O dX4_readPlain_11 3 rfl rfl ?_
  refine g_aload_n O dX4_readPlain_12 1 rfl rfl ?_
  refine g_getI O dX4_readPlain_13 fx_RX4_21 h0 ?_
  refine g_iconst O dX4_readPlain_16 (1 : Int32) (by decide) ?_
  refine g_iadd O dX4_readPlain_17 ?_
  refine g_bipush O dX4_readPlain_18 (10 : Int32) (by decide) ?_
  obtain ⟨q3, hq3, hf⟩ := k_obd hN hf
  refine g_callS (rest := []) O dX4_readPlain_20 (ct_X4_digit hZ h2 hq3) sx_RX4_57 rfl rfl (by decide) (Nat.le_of_ble_eq_true rfl) (fun hp4 => ?_)
  change G Z C σ 23 [(3, .int q1), (0, .ref (za Z i0)), (1, .ref (za Z i1)), (2, .ref (za Z i2))] [.int q3]
  refine g_istoreP O dX4_readPlain_23 (by decide) [(4, .int q3), (3, .int q1), (0, .ref (za Z i0)), (1, .ref (za Z i1)), (2, .ref (za Z i2))] rfl ?_
  refine g_iload O dX4_readPlain_25 0 rfl ?_
  refine g_iconst O dX4_readPlain_27 (-1 : Int32) (by decide) ?_
  refine g_jn (fun (y5 : Int32) => G Z C σ 42 [(4, .int q3), (3, .int q1), (0, .ref (za Z i0)), (1, .ref (za Z i1))] [.int y5]) hf (fun y5 hf => ?_) (fun k5 hk5 hf => ?_)
  · refine g_istoreP O dX4_readPlain_42 (by decide) [(5, .int y5), (4, .int q3), (3, .int q1), (0, .ref (za Z i0)), (1, .ref (za Z i1))] rfl ?_
    refine g_aload_n O dX4_readPlain_44 4 rfl rfl ?_
    refine g_iload O dX4_readPlain_45 0 rfl ?_
    obtain ⟨q6, hq6, hf⟩ := k_obd hN hf
    refine g_callV (rest := []) O dX4_readPlain_47 (ct_X0_wordAt hZ h1 hq6) vx_RX4_68 h1 rfl rfl (by decide) (Nat.le_of_ble_eq_true rfl) (fun hp7 => ?_)
    refine k_ocs hf (fun he hf1 => ?_) (fun w8 he hf1 => ?_)
    · subst he
      have hf := hf1
      change G Z C σ 50 [(5, .int y5), (4, .int q3), (3, .int q1), (0, .ref (za Z i0)), (1, .ref (za Z i1))] [.null]
      refine g_astoreN O dX4_readPlain_50 (by decide) [(6, .null), (5, .int y5), (4, .int q3), (3, .int q1), (0, .ref (za Z i0)), (1, .ref (za Z i1))] rfl ?_
      refine g_iload_n O dX4_readPlain_52 3 rfl rfl ?_
      refine g_iconst O dX4_readPlain_53 (-1 : Int32) (by decide) ?_
      refine g_icmp_eq 70 O dX4_readPlain_54 (by decide) hf (fun c9 hf => ?_) (fun c9 hf => ?_)
      · refine g_iconst O dX4_readPlain_70 (0 : Int32) (by decide) ?_
        exact hR _ _ hf (Or.inl rfl) _ _ dX4_readPlain_71
      · refine g_aloadN O dX4_readPlain_57 0 rfl ?_
        refine g_ifnullN 70 O dX4_readPlain_59 (by decide) ?_
        refine g_iconst O dX4_readPlain_70 (0 : Int32) (by decide) ?_
        exact hR _ _ hf (Or.inl rfl) _ _ dX4_readPlain_71
    · subst he
      have hf := hf1
      change G Z C σ 50 [(5, .int y5), (4, .int q3), (3, .int q1), (0, .ref (za Z i0)), (1, .ref (za Z i1))] [.ref (za Z w8)]
      refine g_astoreP O dX4_readPlain_50 (by decide) [(6, .ref (za Z w8)), (5, .int y5), (4, .int q3), (3, .int q1), (0, .ref (za Z i0)), (1, .ref (za Z i1))] rfl ?_
      refine g_iload_n O dX4_readPlain_52 3 rfl rfl ?_
      refine g_iconst O dX4_readPlain_53 (-1 : Int32) (by decide) ?_
      refine g_icmp_eq 70 O dX4_readPlain_54 (by decide) hf (fun c10 hf => ?_) (fun c10 hf => ?_)
      · refine g_iconst O dX4_readPlain_70 (0 : Int32) (by decide) ?_
        exact hR _ _ hf (Or.inl rfl) _ _ dX4_readPlain_71
      · refine g_aload O dX4_readPlain_57 0 rfl ?_
        refine g_ifnullR O dX4_readPlain_59 ?_
        refine g_aload O dX4_readPlain_62 0 rfl ?_
        refine g_getI O dX4_readPlain_64 fx_RX4_74 (hp7 _ rfl) ?_
        refine g_if_eq 72 O dX4_readPlain_67 (by decide) hf (fun c11 hf => ?_) (fun c11 hf => ?_)
        · refine g_aload_n O dX4_readPlain_72 4 rfl rfl ?_
          refine g_dup O dX4_readPlain_73 rfl ?_
          refine g_getI O dX4_readPlain_74 fx_RX4_21 h0 ?_
          refine g_iload O dX4_readPlain_77 2 rfl ?_
          refine g_iconst O dX4_readPlain_79 (-1 : Int32) (by decide) ?_
          refine g_jn (fun (y12 : Int32) => G Z C σ 88 [(5, .int y5), (0, .ref (za Z i0))] [.int y12, .int (σ i0 1), .ref (za Z i0)]) hf (fun y12 hf => ?_) (fun k12 hk12 hf => ?_)
          · refine g_iadd O dX4_readPlain_88 ?_
            refine g_putI O dX4_readPlain_89 fp_RX4_21 h0 hf (fun m13 hf => ?_)
            refine g_aload_n O dX4_readPlain_92 1 rfl rfl ?_
            refine g_getR O dX4_readPlain_93 fx_RX4_12 h0 ?_
            refine g_iconst O dX4_readPlain_96 (3 : Int32) (by decide) ?_
            refine g_iconst O dX4_readPlain_97 (-1 : Int32) (by decide) ?_
            refine g_iconst O dX4_readPlain_98 (-1 : Int32) (by decide) ?_
            refine g_iload O dX4_readPlain_99 0 rfl ?_
            obtain ⟨q14, hq14, hf⟩ := k_obd hN hf
            refine g_callV (rest := []) O dX4_readPlain_101 (ct_X3_add hZ (kf_4_0 h0) hq14) vx_RX4_64 (kf_4_0 h0) rfl rfl (by decide) (Nat.le_of_ble_eq_true rfl) (fun hp15 => ?_)
            change G Z C q14 104 [(5, .int y5), (0, .ref (za Z i0))] []
            refine g_iconst O dX4_readPlain_104 (1 : Int32) (by decide) ?_
            exact hR _ _ hf (Or.inr rfl) _ _ dX4_readPlain_105
          · skip
            refine g_icmp_ne 87 O dX4_readPlain_80 (by decide) hf (fun c16 hf => ?_) (fun c16 hf => ?_)
            · refine g_iconst O dX4_readPlain_83 (1 : Int32) (by decide) ?_
              refine g_goto 88 O dX4_readPlain_84 (by decide) ?_
              refine g_sub [1, 4] rfl ?_
              exact hk12 _ hf
            · refine g_iconst O dX4_readPlain_87 (2 : Int32) (by decide) ?_
              refine g_sub [1, 4] rfl ?_
              exact hk12 _ hf
        · refine g_iconst O dX4_readPlain_70 (0 : Int32) (by decide) ?_
          exact hR _ _ hf (Or.inl rfl) _ _ dX4_readPlain_71
  · skip
    refine g_icmp_ne 35 O dX4_readPlain_28 (by decide) hf (fun c17 hf => ?_) (fun c17 hf => ?_)
    · refine g_iload_n O dX4_readPlain_31 1 rfl rfl ?_
      refine g_goto 42 O dX4_readPlain_32 (by decide) ?_
      refine g_sub [0, 1, 2, 3] rfl ?_
      exact hk5 _ hf
    · refine g_bipush O dX4_readPlain_35 (10 : Int32) (by decide) ?_
      refine g_iload_n O dX4_readPlain_37 1 rfl rfl ?_
      refine g_imul O dX4_readPlain_38 ?_
      refine g_iload O dX4_readPlain_39 0 rfl ?_
      refine g_iadd O dX4_readPlain_41 ?_
      refine g_sub [0, 1, 2, 3] rfl ?_
      exact hk5 _ hf

set_option maxHeartbeats 4000000 in
set_option maxRecDepth 100000 in
theorem ct_X4_sortBy {Z : ZT} (hZ : ZOk Z) {σ : Mem} {p0 : Int32}  {r : Int32} (hf : fX4_sortBy σ p0 = some r) : Ct Z yX4_sortBy cX4_sortBy 1 (some .int) 0 0 [.int p0] σ (some (.int r)) True σ := by
  refine ct_i hZ (by decide +kernel) (Nat.le_of_ble_eq_true rfl) hf (fun C K O hN hR hf => ?_)
  have O : Ok Z C RX4 cX4_sortBy 1 0 0 := O
  change G Z C σ 0 [(0, .int p0)] []
  unfold fX4_sortBy at hf
  refine g_iload_n O dX4_sortBy_0 0 rfl rfl ?_
  refine k_if hf (fun c1 hf => ?_) (fun c1 hf => ?_)
  · refine g_look 48 O dX4_sortBy_1 (by decide) (by rw [c1]) (by decide) ?_
    refine g_iconst O dX4_sortBy_48 (2 : Int32) (by decide) ?_
    exact hR _ hf _ _ dX4_sortBy_49
  refine k_if hf (fun c2 hf => ?_) (fun c2 hf => ?_)
  · refine g_look 44 O dX4_sortBy_1 (by decide) (by rw [c2]) (by decide) ?_
    refine g_iconst O dX4_sortBy_44 (0 : Int32) (by decide) ?_
    exact hR _ hf _ _ dX4_sortBy_45
  refine k_if hf (fun c3 hf => ?_) (fun c3 hf => ?_)
  · refine g_look 50 O dX4_sortBy_1 (by decide) (by rw [c3]) (by decide) ?_
    refine g_iconst O dX4_sortBy_50 (3 : Int32) (by decide) ?_
    exact hR _ hf _ _ dX4_sortBy_51
  refine k_if hf (fun c4 hf => ?_) (fun c4 hf => ?_)
  · refine g_look 46 O dX4_sortBy_1 (by decide) (by rw [c4]) (by decide) ?_
    refine g_iconst O dX4_sortBy_46 (1 : Int32) (by decide) ?_
    exact hR _ hf _ _ dX4_sortBy_47
  refine g_look (off := 51) 52 O dX4_sortBy_1 (by decide) (by have h0 := Ne.symm (ti_ne c1 (n := 102) (by decide)); have h1 := Ne.symm (ti_ne c2 (n := 110) (by decide)); have h2 := Ne.symm (ti_ne c3 (n := 112) (by decide)); have h3 := Ne.symm (ti_ne c4 (n := 118) (by decide)); simp [Op.lookupswitch.offset, h0, h1, h2, h3]) (by decide) ?_
  refine g_iconst O dX4_sortBy_52 (-1 : Int32) (by decide) ?_
  exact hR _ hf _ _ dX4_sortBy_53

set_option maxHeartbeats 4000000 in
set_option maxRecDepth 100000 in
theorem ct_X4_readHole {Z : ZT} (hZ : ZOk Z) {σ : Mem} {i0 : Nat} {i1 : Nat} {i2 : Nat} (h0 : kn i0 = 4) (h1 : kn i1 = 0) (h2 : kn i2 = 5) {r : (Int32 × Mem)} (hf : fX4_readHole σ i0 i1 i2 = some r) : Ct Z yX4_readHole cX4_readHole 4 (some .boolean) 3 71 [.ref (za Z i0), .ref (za Z i1), .ref (za Z i2)] σ (some (.int r.1)) (r.1 = 0 ∨ r.1 = 1) r.2 := by
  refine ct_zm hZ (by decide +kernel) (Nat.le_of_ble_eq_true rfl) hf (fun C K O hN hR hf => ?_)
  have O : Ok Z C RX4 cX4_readHole 4 3 71 := O
  change G Z C σ 0 [(0, .ref (za Z i0)), (1, .ref (za Z i1)), (2, .ref (za Z i2))] []
  unfold fX4_readHole at hf
  refine g_aload_n O dX4_readHole_0 2 rfl rfl ?_
  refine g_aload_n O dX4_readHole_1 0 rfl rfl ?_
  refine g_getI O dX4_readHole_2 fx_RX4_21 h0 ?_
  obtain ⟨q1, hq1, hf⟩ := k_obd hN hf
  refine g_callV (rest := []) O dX4_readHole_5 (ct_X5_at hZ h2 hq1) vx_RX4_42 h2 rfl rfl (by decide) (Nat.le_of_ble_eq_true rfl) (fun hp2 => ?_)
  change G Z C σ 8 [(0, .ref (za Z i0)), (1, .ref (za Z i1)), (2, .ref (za Z i2))] [.int q1]
  obtain ⟨q3, hq3, hf⟩ := k_obd hN hf
  refine g_callS (rest := []) O dX4_readHole_8 (ct_X4_sortBy hZ  hq3) sx_RX4_46 rfl rfl (by decide) (Nat.le_of_ble_eq_true rfl) (fun hp4 => ?_)
  change G Z C σ 11 [(0, .ref (za Z i0)), (1, .ref (za Z i1)), (2, .ref (za Z i2))] [.int q3]
  refine g_istore_nP O dX4_readHole_11 rfl (by decide) [(3, .int q3), (0, .ref (za Z i0)), (1, .ref (za Z i1)), (2, .ref (za Z i2))] rfl ?_
  refine g_iload_n O dX4_readHole_12 0 rfl rfl ?_
  refine g_iconst O dX4_readHole_13 (-1 : Int32) (by decide) ?_
  refine g_icmp_eq 29 O dX4_readHole_14 (by decide) hf (fun c5 hf => ?_) (fun c5 hf => ?_)
  · refine g_iconst O dX4_readHole_29 (0 : Int32) (by decide) ?_
    exact hR _ _ hf (Or.inl rfl) _ _ dX4_readHole_30
  · refine g_aload_n O dX4_readHole_17 1 rfl rfl ?_
    refine g_getR O dX4_readHole_18 fx_RX4_12 h0 ?_
    refine g_getI O dX4_readHole_21 fx_RX4_49 (kf_4_0 h0) ?_
    refine g_bipush O dX4_readHole_24 (6 : Int32) (by decide) ?_
    refine g_icmp_lt 31 O dX4_readHole_26 (by decide) hf (fun c6 hf => ?_) (fun c6 hf => ?_)
    · refine g_aload_n O dX4_readHole_31 1 rfl rfl ?_
      refine g_dup O dX4_readHole_32 rfl ?_
      refine g_getI O dX4_readHole_33 fx_RX4_21 h0 ?_
      refine g_iconst O dX4_readHole_36 (1 : Int32) (by decide) ?_
      refine g_iadd O dX4_readHole_37 ?_
      refine g_putI O dX4_readHole_38 fp_RX4_21 h0 hf (fun m7 hf => ?_)
      refine g_iload_n O dX4_readHole_41 0 rfl rfl ?_
      refine g_iconst O dX4_readHole_42 (3 : Int32) (by decide) ?_
      refine g_icmp_ne 55 O dX4_readHole_43 (by decide) hf (fun c8 hf => ?_) (fun c8 hf => ?_)
      · refine g_aload_n O dX4_readHole_46 1 rfl rfl ?_
        refine g_aload_n O dX4_readHole_47 2 rfl rfl ?_
        refine g_aload_n O dX4_readHole_48 3 rfl rfl ?_
        obtain ⟨q9, hq9, hf⟩ := k_obd hN hf
        refine g_callV (rest := []) O dX4_readHole_49 (ct_X4_readPlain hZ h0 h1 h2 hq9) vx_RX4_50 h0 rfl rfl (by decide) (Nat.le_of_ble_eq_true rfl) (fun hp10 => ?_)
        change G Z C q9.2 52 [(3, .int q3), (0, .ref (za Z i0)), (1, .ref (za Z i1)), (2, .ref (za Z i2))] [.int q9.1]
        refine g_goto 61 O dX4_readHole_52 (by decide) ?_
        exact hR _ _ hf hp10 _ _ dX4_readHole_61
      · refine g_aload_n O dX4_readHole_55 1 rfl rfl ?_
        refine g_iload_n O dX4_readHole_56 0 rfl rfl ?_
        refine g_aload_n O dX4_readHole_57 3 rfl rfl ?_
        obtain ⟨q11, hq11, hf⟩ := k_obd hN hf
        refine g_callV (rest := []) O dX4_readHole_58 (ct_X4_readGrouped hZ h0 h2 hq11) vx_RX4_53 h0 rfl rfl (by decide) (Nat.le_of_ble_eq_true rfl) (fun hp12 => ?_)
        change G Z C q11.2 61 [(3, .int q3), (0, .ref (za Z i0)), (1, .ref (za Z i1)), (2, .ref (za Z i2))] [.int q11.1]
        exact hR _ _ hf hp12 _ _ dX4_readHole_61
    · refine g_iconst O dX4_readHole_29 (0 : Int32) (by decide) ?_
      exact hR _ _ hf (Or.inl rfl) _ _ dX4_readHole_30

set_option maxHeartbeats 4000000 in
set_option maxRecDepth 100000 in
theorem ct_X4_skipBlanks {Z : ZT} (hZ : ZOk Z) {σ : Mem} {i0 : Nat} {i1 : Nat} (h0 : kn i0 = 4) (h1 : kn i1 = 5) {r : Mem} (hf : fX4_skipBlanks σ i0 i1 = some r) : Ct Z yX4_skipBlanks cX4_skipBlanks 3 none 1 21 [.ref (za Z i0), .ref (za Z i1)] σ none True r := by
  refine ct_v hZ (by decide +kernel) (Nat.le_of_ble_eq_true rfl) hf (fun C K O hN hR hf => ?_)
  have O : Ok Z C RX4 cX4_skipBlanks 3 1 21 := O
  change G Z C σ 0 [(0, .ref (za Z i0)), (1, .ref (za Z i1))] []
  unfold fX4_skipBlanks at hf
  refine g_aload_n O dX4_skipBlanks_0 0 rfl rfl ?_
  refine g_getI O dX4_skipBlanks_1 fx_RX4_21 h0 ?_
  refine g_istore_n O dX4_skipBlanks_4 rfl (by decide) (fun y => [(2, .int y), (0, .ref (za Z i0)), (1, .ref (za Z i1))]) (fun _ => rfl) hf (fun x1 hf => ?_)
  refine g_lp hN (fun (a2 : Int32 × Mem) => G Z C a2.2 5 [(2, .int a2.1), (0, .ref (za Z i0)), (1, .ref (za Z i1))] []) hf (fun a2 _ hN2 hI2 hX2 hf => ?_)
  unfold sX4_skipBlanks_5 at hf
  refine g_iload_n O dX4_skipBlanks_5 0 rfl rfl ?_
  refine g_aload_n O dX4_skipBlanks_6 2 rfl rfl ?_
  refine g_getI O dX4_skipBlanks_7 fx_RX4_29 h1 ?_
  refine g_icmp_ge 46 O dX4_skipBlanks_10 (by decide) hf (fun c3 hf => ?_) (fun c3 hf => ?_)
  · have hf := hX2 _ hf
    exact hR _ hf _ _ dX4_skipBlanks_46
  · refine g_aload_n O dX4_skipBlanks_13 2 rfl rfl ?_
    refine g_iload_n O dX4_skipBlanks_14 0 rfl rfl ?_
    obtain ⟨q4, hq4, hf⟩ := k_obd hN2 hf
    refine g_callV (rest := []) O dX4_skipBlanks_15 (ct_X5_at hZ h1 hq4) vx_RX4_42 h1 rfl rfl (by decide) (Nat.le_of_ble_eq_true rfl) (fun hp5 => ?_)
    change G Z C a2.2 18 [(2, .int a2.1), (0, .ref (za Z i0)), (1, .ref (za Z i1))] [.int q4]
    refine g_bipush O dX4_skipBlanks_18 (32 : Int32) (by decide) ?_
    refine g_jn (fun (y6 : Unit) => G Z C a2.2 33 [(2, .int a2.1), (0, .ref (za Z i0)), (1, .ref (za Z i1))] []) hf (fun y6 hf => ?_) (fun k6 hk6 hf => ?_)
    · refine g_aload_n O dX4_skipBlanks_33 1 rfl rfl ?_
      refine g_iload_n O dX4_skipBlanks_34 0 rfl rfl ?_
      refine g_iconst O dX4_skipBlanks_35 (1 : Int32) (by decide) ?_
      refine g_iadd O dX4_skipBlanks_36 ?_
      refine g_putI O dX4_skipBlanks_37 fp_RX4_21 h0 hf (fun m7 hf => ?_)
      refine g_iinc O dX4_skipBlanks_40 0 rfl (by decide) (1) (by decide) (fun y => [(2, .int y), (0, .ref (za Z i0)), (1, .ref (za Z i1))]) (fun _ => rfl) hf (fun x8 hf => ?_)
      refine g_goto 5 O dX4_skipBlanks_43 (by decide) ?_
      exact hI2 _ hf
    · skip
      refine g_icmp_eq 33 O dX4_skipBlanks_20 (by decide) hf (fun c9 hf => ?_) (fun c9 hf => ?_)
      · exact hk6 _ hf
      · refine g_aload_n O dX4_skipBlanks_23 2 rfl rfl ?_
        refine g_iload_n O dX4_skipBlanks_24 0 rfl rfl ?_
        obtain ⟨q10, hq10, hf⟩ := k_obd hN2 hf
        refine g_callV (rest := []) O dX4_skipBlanks_25 (ct_X5_at hZ h1 hq10) vx_RX4_42 h1 rfl rfl (by decide) (Nat.le_of_ble_eq_true rfl) (fun hp11 => ?_)
        change G Z C a2.2 28 [(2, .int a2.1), (0, .ref (za Z i0)), (1, .ref (za Z i1))] [.int q10]
        refine g_bipush O dX4_skipBlanks_28 (10 : Int32) (by decide) ?_
        refine g_icmp_ne 46 O dX4_skipBlanks_30 (by decide) hf (fun c12 hf => ?_) (fun c12 hf => ?_)
        · exact hk6 _ hf
        · have hf := hX2 _ hf
          exact hR _ hf _ _ dX4_skipBlanks_46

set_option maxHeartbeats 4000000 in
set_option maxRecDepth 100000 in
theorem ct_X4_read {Z : ZT} (hZ : ZOk Z) {σ : Mem} {i0 : Nat} {i1 : Nat} {i2 : Nat} (h0 : kn i0 = 4) (h1 : kn i1 = 0) (h2 : kn i2 = 5) {r : (Int32 × Mem)} (hf : fX4_read σ i0 i1 i2 = some r) : Ct Z yX4_read cX4_read 4 (some .int) 4 94 [.ref (za Z i0), .ref (za Z i1), .ref (za Z i2)] σ (some (.int r.1)) True r.2 := by
  refine ct_im hZ (by decide +kernel) (Nat.le_of_ble_eq_true rfl) hf (fun C K O hN hR hf => ?_)
  have O : Ok Z C RX4 cX4_read 4 4 94 := O
  change G Z C σ 0 [(0, .ref (za Z i0)), (1, .ref (za Z i1)), (2, .ref (za Z i2))] []
  unfold fX4_read at hf
  refine g_aload_n O dX4_read_0 0 rfl rfl ?_
  refine g_getR O dX4_read_1 fx_RX4_12 h0 ?_
  obtain ⟨q1, hq1, hf⟩ := k_obd hN hf
  refine g_callV (rest := []) O dX4_read_4 (ct_X3_clear hZ (kf_4_0 h0) hq1) vx_RX4_18 (kf_4_0 h0) rfl rfl (by decide) (Nat.le_of_ble_eq_true rfl) (fun hp2 => ?_)
  change G Z C q1 7 [(0, .ref (za Z i0)), (1, .ref (za Z i1)), (2, .ref (za Z i2))] []
  refine g_aload_n O dX4_read_7 0 rfl rfl ?_
  refine g_iconst O dX4_read_8 (0 : Int32) (by decide) ?_
  refine g_putI O dX4_read_9 fp_RX4_21 h0 hf (fun m3 hf => ?_)
  refine g_aload_n O dX4_read_12 0 rfl rfl ?_
  refine g_aload_n O dX4_read_13 2 rfl rfl ?_
  obtain ⟨q4, hq4, hf⟩ := k_obd hN hf
  refine g_callV (rest := []) O dX4_read_14 (ct_X4_skipBlanks hZ h0 h2 hq4) vx_RX4_25 h0 rfl rfl (by decide) (Nat.le_of_ble_eq_true rfl) (fun hp5 => ?_)
  change G Z C q4 17 [(0, .ref (za Z i0)), (1, .ref (za Z i1)), (2, .ref (za Z i2))] []
  refine g_iconst O dX4_read_17 (0 : Int32) (by decide) ?_
  refine g_istore_nP O dX4_read_18 rfl (by decide) [(3, .int (0 : Int32)), (0, .ref (za Z i0)), (1, .ref (za Z i1)), (2, .ref (za Z i2))] rfl ?_
  refine g_lp hN (fun (a6 : Int32 × Mem) => G Z C a6.2 19 [(3, .int a6.1), (0, .ref (za Z i0)), (1, .ref (za Z i1)), (2, .ref (za Z i2))] []) hf (fun a6 _ hN6 hI6 hX6 hf => ?_)
  unfold sX4_read_19 at hf
  refine g_iload_n O dX4_read_19 0 rfl rfl ?_
  refine g_bipush O dX4_read_20 (6 : Int32) (by decide) ?_
  refine g_jn (fun (y7 : Unit) => G Z C a6.2 61 [(0, .ref (za Z i0)), (2, .ref (za Z i2))] []) hf (fun y7 hf => ?_) (fun k7 hk7 hf => ?_)
  · have hf := hX6 _ hf
    refine g_aload_n O dX4_read_61 0 rfl rfl ?_
    refine g_getR O dX4_read_62 fx_RX4_12 h0 ?_
    obtain ⟨q8, hq8, hf⟩ := k_obd hN hf
    refine g_callV (rest := []) O dX4_read_65 (ct_X3_isWhole hZ (kf_4_0 h0) hq8) vx_RX4_38 (kf_4_0 h0) rfl rfl (by decide) (Nat.le_of_ble_eq_true rfl) (fun hp9 => ?_)
    change G Z C a6.2 68 [(0, .ref (za Z i0)), (2, .ref (za Z i2))] [.int q8]
    refine g_if_eq 75 O dX4_read_68 (by decide) hf (fun c10 hf => ?_) (fun c10 hf => ?_)
    · refine g_aload_n O dX4_read_75 1 rfl rfl ?_
      refine g_getI O dX4_read_76 fx_RX4_29 h2 ?_
      exact hR _ _ hf _ _ dX4_read_79
    · refine g_iconst O dX4_read_71 (-1 : Int32) (by decide) ?_
      refine g_goto 79 O dX4_read_72 (by decide) ?_
      exact hR _ _ hf _ _ dX4_read_79
  · skip
    refine g_icmp_gt 61 O dX4_read_22 (by decide) hf (fun c11 hf => ?_) (fun c11 hf => ?_)
    · refine g_sub [1, 3] rfl ?_
      exact hk7 _ hf
    · refine g_aload_n O dX4_read_25 1 rfl rfl ?_
      refine g_getI O dX4_read_26 fx_RX4_21 h0 ?_
      refine g_aload_n O dX4_read_29 3 rfl rfl ?_
      refine g_getI O dX4_read_30 fx_RX4_29 h2 ?_
      refine g_icmp_ge 61 O dX4_read_33 (by decide) hf (fun c12 hf => ?_) (fun c12 hf => ?_)
      · refine g_sub [1, 3] rfl ?_
        exact hk7 _ hf
      · refine g_aload_n O dX4_read_36 1 rfl rfl ?_
        refine g_aload_n O dX4_read_37 2 rfl rfl ?_
        refine g_aload_n O dX4_read_38 3 rfl rfl ?_
        obtain ⟨q13, hq13, hf⟩ := k_obd hN6 hf
        refine g_callV (rest := []) O dX4_read_39 (ct_X4_readHole hZ h0 h1 h2 hq13) vx_RX4_34 h0 rfl rfl (by decide) (Nat.le_of_ble_eq_true rfl) (fun hp14 => ?_)
        change G Z C q13.2 42 [(3, .int a6.1), (0, .ref (za Z i0)), (1, .ref (za Z i1)), (2, .ref (za Z i2))] [.int q13.1]
        refine g_if_ne 50 O dX4_read_42 (by decide) hf (fun c15 hf => ?_) (fun c15 hf => ?_)
        · have hf := hX6 _ hf
          refine g_aload_n O dX4_read_45 1 rfl rfl ?_
          refine g_getI O dX4_read_46 fx_RX4_21 h0 ?_
          exact hR _ _ hf _ _ dX4_read_49
        · refine g_aload_n O dX4_read_50 1 rfl rfl ?_
          refine g_aload_n O dX4_read_51 3 rfl rfl ?_
          obtain ⟨q16, hq16, hf⟩ := k_obd hN6 hf
          refine g_callV (rest := []) O dX4_read_52 (ct_X4_skipBlanks hZ h0 h2 hq16) vx_RX4_25 h0 rfl rfl (by decide) (Nat.le_of_ble_eq_true rfl) (fun hp17 => ?_)
          change G Z C q16 55 [(3, .int a6.1), (0, .ref (za Z i0)), (1, .ref (za Z i1)), (2, .ref (za Z i2))] []
          refine g_iinc O dX4_read_55 0 rfl (by decide) (1) (by decide) (fun y => [(3, .int y), (0, .ref (za Z i0)), (1, .ref (za Z i1)), (2, .ref (za Z i2))]) (fun _ => rfl) hf (fun x18 hf => ?_)
          refine g_goto 19 O dX4_read_58 (by decide) ?_
          exact hI6 _ hf

set_option maxHeartbeats 4000000 in
set_option maxRecDepth 100000 in
theorem ct_X5_isLetter {Z : ZT} (hZ : ZOk Z) {σ : Mem} {p0 : Int32}  {r : Int32} (hf : fX5_isLetter σ p0 = some r) : Ct Z yX5_isLetter cX5_isLetter 1 (some .boolean) 0 0 [.int p0] σ (some (.int r)) (r = 0 ∨ r = 1) σ := by
  refine ct_z hZ (by decide +kernel) (Nat.le_of_ble_eq_true rfl) hf (fun C K O hN hR hf => ?_)
  have O : Ok Z C RX5 cX5_isLetter 1 0 0 := O
  change G Z C σ 0 [(0, .int p0)] []
  unfold fX5_isLetter at hf
  refine g_iload_n O dX5_isLetter_0 0 rfl rfl ?_
  refine g_bipush O dX5_isLetter_1 (97 : Int32) (by decide) ?_
  refine g_icmp_lt 16 O dX5_isLetter_3 (by decide) hf (fun c1 hf => ?_) (fun c1 hf => ?_)
  · refine g_iconst O dX5_isLetter_16 (0 : Int32) (by decide) ?_
    exact hR _ hf (Or.inl rfl) _ _ dX5_isLetter_17
  · refine g_iload_n O dX5_isLetter_6 0 rfl rfl ?_
    refine g_bipush O dX5_isLetter_7 (122 : Int32) (by decide) ?_
    refine g_icmp_gt 16 O dX5_isLetter_9 (by decide) hf (fun c2 hf => ?_) (fun c2 hf => ?_)
    · refine g_iconst O dX5_isLetter_16 (0 : Int32) (by decide) ?_
      exact hR _ hf (Or.inl rfl) _ _ dX5_isLetter_17
    · refine g_iconst O dX5_isLetter_12 (1 : Int32) (by decide) ?_
      refine g_goto 17 O dX5_isLetter_13 (by decide) ?_
      exact hR _ hf (Or.inr rfl) _ _ dX5_isLetter_17

set_option maxHeartbeats 4000000 in
set_option maxRecDepth 100000 in
theorem ct_X5_clear {Z : ZT} (hZ : ZOk Z) {σ : Mem} {i0 : Nat} (h0 : kn i0 = 5) {r : Mem} (hf : fX5_clear σ i0 = some r) : Ct Z yX5_clear cX5_clear 1 none 0 0 [.ref (za Z i0)] σ none True r := by
  refine ct_v hZ (by decide +kernel) (Nat.le_of_ble_eq_true rfl) hf (fun C K O hN hR hf => ?_)
  have O : Ok Z C RX5 cX5_clear 1 0 0 := O
  change G Z C σ 0 [(0, .ref (za Z i0))] []
  unfold fX5_clear at hf
  refine g_aload_n O dX5_clear_0 0 rfl rfl ?_
  refine g_iconst O dX5_clear_1 (0 : Int32) (by decide) ?_
  refine g_putI O dX5_clear_2 fp_RX5_21 h0 hf (fun m1 hf => ?_)
  exact hR _ hf _ _ dX5_clear_5

set_option maxHeartbeats 4000000 in
set_option maxRecDepth 100000 in
theorem ct_X5_isAllLetters {Z : ZT} (hZ : ZOk Z) {σ : Mem} {i0 : Nat} (h0 : kn i0 = 5) {r : Int32} (hf : fX5_isAllLetters σ i0 = some r) : Ct Z yX5_isAllLetters cX5_isAllLetters 2 (some .boolean) 1 21 [.ref (za Z i0)] σ (some (.int r)) (r = 0 ∨ r = 1) σ := by
  refine ct_z hZ (by decide +kernel) (Nat.le_of_ble_eq_true rfl) hf (fun C K O hN hR hf => ?_)
  have O : Ok Z C RX5 cX5_isAllLetters 2 1 21 := O
  change G Z C σ 0 [(0, .ref (za Z i0))] []
  unfold fX5_isAllLetters at hf
  refine g_iconst O dX5_isAllLetters_0 (0 : Int32) (by decide) ?_
  refine g_istore_nP O dX5_isAllLetters_1 rfl (by decide) [(1, .int (0 : Int32)), (0, .ref (za Z i0))] rfl ?_
  refine g_lp hN (fun (a1 : Int32) => G Z C σ 2 [(1, .int a1), (0, .ref (za Z i0))] []) hf (fun a1 _ hN1 hI1 hX1 hf => ?_)
  unfold sX5_isAllLetters_2 at hf
  refine g_iload_n O dX5_isAllLetters_2 0 rfl rfl ?_
  refine g_aload_n O dX5_isAllLetters_3 1 rfl rfl ?_
  refine g_getI O dX5_isAllLetters_4 fx_RX5_21 h0 ?_
  refine g_icmp_ge 29 O dX5_isAllLetters_7 (by decide) hf (fun c2 hf => ?_) (fun c2 hf => ?_)
  · have hf := hX1 _ hf
    refine g_iconst O dX5_isAllLetters_29 (1 : Int32) (by decide) ?_
    exact hR _ hf (Or.inr rfl) _ _ dX5_isAllLetters_30
  · refine g_aload_n O dX5_isAllLetters_10 1 rfl rfl ?_
    refine g_iload_n O dX5_isAllLetters_11 0 rfl rfl ?_
    obtain ⟨q3, hq3, hf⟩ := k_obd hN1 hf
    refine g_callV (rest := []) O dX5_isAllLetters_12 (ct_X5_at hZ h0 hq3) vx_RX5_34 h0 rfl rfl (by decide) (Nat.le_of_ble_eq_true rfl) (fun hp4 => ?_)
    change G Z C σ 15 [(1, .int a1), (0, .ref (za Z i0))] [.int q3]
    obtain ⟨q5, hq5, hf⟩ := k_obd hN1 hf
    refine g_callS (rest := []) O dX5_isAllLetters_15 (ct_X5_isLetter hZ  hq5) sx_RX5_46 rfl rfl (by decide) (Nat.le_of_ble_eq_true rfl) (fun hp6 => ?_)
    change G Z C σ 18 [(1, .int a1), (0, .ref (za Z i0))] [.int q5]
    refine g_if_ne 23 O dX5_isAllLetters_18 (by decide) hf (fun c7 hf => ?_) (fun c7 hf => ?_)
    · have hf := hX1 _ hf
      refine g_iconst O dX5_isAllLetters_21 (0 : Int32) (by decide) ?_
      exact hR _ hf (Or.inl rfl) _ _ dX5_isAllLetters_22
    · refine g_iinc O dX5_isAllLetters_23 0 rfl (by decide) (1) (by decide) (fun y => [(1, .int y), (0, .ref (za Z i0))]) (fun _ => rfl) hf (fun x8 hf => ?_)
      refine g_goto 2 O dX5_isAllLetters_26 (by decide) ?_
      exact hI1 _ hf

set_option maxHeartbeats 4000000 in
set_option maxRecDepth 100000 in
theorem ct_X5_isAllWords {Z : ZT} (hZ : ZOk Z) {σ : Mem} {i0 : Nat} (h0 : kn i0 = 5) {r : Int32} (hf : fX5_isAllWords σ i0 = some r) : Ct Z yX5_isAllWords cX5_isAllWords 3 (some .boolean) 1 21 [.ref (za Z i0)] σ (some (.int r)) (r = 0 ∨ r = 1) σ := by
  refine ct_z hZ (by decide +kernel) (Nat.le_of_ble_eq_true rfl) hf (fun C K O hN hR hf => ?_)
  have O : Ok Z C RX5 cX5_isAllWords 3 1 21 := O
  change G Z C σ 0 [(0, .ref (za Z i0))] []
  unfold fX5_isAllWords at hf
  refine g_iconst O dX5_isAllWords_0 (0 : Int32) (by decide) ?_
  refine g_istore_nP O dX5_isAllWords_1 rfl (by decide) [(1, .int (0 : Int32)), (0, .ref (za Z i0))] rfl ?_
  refine g_lp hN (fun (a1 : Int32) => G Z C σ 2 [(1, .int a1), (0, .ref (za Z i0))] []) hf (fun a1 _ hN1 hI1 hX1 hf => ?_)
  unfold sX5_isAllWords_2 at hf
  refine g_iload_n O dX5_isAllWords_2 0 rfl rfl ?_
  refine g_aload_n O dX5_isAllWords_3 1 rfl rfl ?_
  refine g_getI O dX5_isAllWords_4 fx_RX5_21 h0 ?_
  refine g_icmp_ge 62 O dX5_isAllWords_7 (by decide) hf (fun c2 hf => ?_) (fun c2 hf => ?_)
  · have hf := hX1 _ hf
    refine g_aload_n O dX5_isAllWords_62 1 rfl rfl ?_
    refine g_aload_n O dX5_isAllWords_63 1 rfl rfl ?_
    refine g_getI O dX5_isAllWords_64 fx_RX5_21 h0 ?_
    refine g_iconst O dX5_isAllWords_67 (1 : Int32) (by decide) ?_
    refine g_isub O dX5_isAllWords_68 ?_
    obtain ⟨q3, hq3, hf⟩ := k_obd hN hf
    refine g_callV (rest := []) O dX5_isAllWords_69 (ct_X5_at hZ h0 hq3) vx_RX5_34 h0 rfl rfl (by decide) (Nat.le_of_ble_eq_true rfl) (fun hp4 => ?_)
    change G Z C σ 72 [(1, .int a1), (0, .ref (za Z i0))] [.int q3]
    obtain ⟨q5, hq5, hf⟩ := k_obd hN hf
    refine g_callS (rest := []) O dX5_isAllWords_72 (ct_X5_isLetter hZ  hq5) sx_RX5_46 rfl rfl (by decide) (Nat.le_of_ble_eq_true rfl) (fun hp6 => ?_)
    change G Z C σ 75 [(1, .int a1), (0, .ref (za Z i0))] [.int q5]
    exact hR _ hf hp6 _ _ dX5_isAllWords_75
  · refine g_aload_n O dX5_isAllWords_10 1 rfl rfl ?_
    refine g_iload_n O dX5_isAllWords_11 0 rfl rfl ?_
    obtain ⟨q7, hq7, hf⟩ := k_obd hN1 hf
    refine g_callV (rest := []) O dX5_isAllWords_12 (ct_X5_at hZ h0 hq7) vx_RX5_34 h0 rfl rfl (by decide) (Nat.le_of_ble_eq_true rfl) (fun hp8 => ?_)
    change G Z C σ 15 [(1, .int a1), (0, .ref (za Z i0))] [.int q7]
    refine g_bipush O dX5_isAllWords_15 (32 : Int32) (by decide) ?_
    refine g_jn (fun (y9 : Int32) => G Z C σ 38 [(1, .int a1), (0, .ref (za Z i0))] [.int y9]) hf (fun y9 hf => ?_) (fun k9 hk9 hf => ?_)
    · refine g_istore_nP O dX5_isAllWords_38 rfl (by decide) [(2, .int y9), (1, .int a1), (0, .ref (za Z i0))] rfl ?_
      refine g_aload_n O dX5_isAllWords_39 2 rfl rfl ?_
      refine g_iload_n O dX5_isAllWords_40 1 rfl rfl ?_
      obtain ⟨q10, hq10, hf⟩ := k_obd hN1 hf
      refine g_callV (rest := []) O dX5_isAllWords_41 (ct_X5_at hZ h0 hq10) vx_RX5_34 h0 rfl rfl (by decide) (Nat.le_of_ble_eq_true rfl) (fun hp11 => ?_)
      change G Z C σ 44 [(2, .int y9), (1, .int a1), (0, .ref (za Z i0))] [.int q10]
      obtain ⟨q12, hq12, hf⟩ := k_obd hN1 hf
      refine g_callS (rest := []) O dX5_isAllWords_44 (ct_X5_isLetter hZ  hq12) sx_RX5_46 rfl rfl (by decide) (Nat.le_of_ble_eq_true rfl) (fun hp13 => ?_)
      change G Z C σ 47 [(2, .int y9), (1, .int a1), (0, .ref (za Z i0))] [.int q12]
      refine g_if_ne 56 O dX5_isAllWords_47 (by decide) hf (fun c14 hf => ?_) (fun c14 hf => ?_)
      · refine g_iload_n O dX5_isAllWords_50 0 rfl rfl ?_
        refine g_if_ne 56 O dX5_isAllWords_51 (by decide) hf (fun c15 hf => ?_) (fun c15 hf => ?_)
        · have hf := hX1 _ hf
          refine g_iconst O dX5_isAllWords_54 (0 : Int32) (by decide) ?_
          exact hR _ hf (Or.inl rfl) _ _ dX5_isAllWords_55
        · refine g_iinc O dX5_isAllWords_56 1 rfl (by decide) (1) (by decide) (fun y => [(1, .int y), (2, .int y9), (0, .ref (za Z i0))]) (fun _ => rfl) hf (fun x16 hf => ?_)
          refine g_goto 2 O dX5_isAllWords_59 (by decide) ?_
          refine g_sub [0, 2] rfl ?_
          exact hI1 _ hf
      · refine g_iinc O dX5_isAllWords_56 1 rfl (by decide) (1) (by decide) (fun y => [(1, .int y), (2, .int y9), (0, .ref (za Z i0))]) (fun _ => rfl) hf (fun x17 hf => ?_)
        refine g_goto 2 O dX5_isAllWords_59 (by decide) ?_
        refine g_sub [0, 2] rfl ?_
        exact hI1 _ hf
    · skip
      refine g_jn (fun (y18 : Unit) => G Z C σ 37 [(1, .int a1), (0, .ref (za Z i0))] []) hf (fun y18 hf => ?_) (fun k18 hk18 hf => ?_)
      · refine g_iconst O dX5_isAllWords_37 (0 : Int32) (by decide) ?_
        exact hk9 _ hf
      · skip
        refine g_icmp_ne 37 O dX5_isAllWords_17 (by decide) hf (fun c19 hf => ?_) (fun c19 hf => ?_)
        · refine g_aload_n O dX5_isAllWords_20 1 rfl rfl ?_
          refine g_iload_n O dX5_isAllWords_21 0 rfl rfl ?_
          refine g_iconst O dX5_isAllWords_22 (1 : Int32) (by decide) ?_
          refine g_isub O dX5_isAllWords_23 ?_
          obtain ⟨q20, hq20, hf⟩ := k_obd hN1 hf
          refine g_callV (rest := []) O dX5_isAllWords_24 (ct_X5_at hZ h0 hq20) vx_RX5_34 h0 rfl rfl (by decide) (Nat.le_of_ble_eq_true rfl) (fun hp21 => ?_)
          change G Z C σ 27 [(1, .int a1), (0, .ref (za Z i0))] [.int q20]
          obtain ⟨q22, hq22, hf⟩ := k_obd hN1 hf
          refine g_callS (rest := []) O dX5_isAllWords_27 (ct_X5_isLetter hZ  hq22) sx_RX5_46 rfl rfl (by decide) (Nat.le_of_ble_eq_true rfl) (fun hp23 => ?_)
          change G Z C σ 30 [(1, .int a1), (0, .ref (za Z i0))] [.int q22]
          refine g_if_eq 37 O dX5_isAllWords_30 (by decide) hf (fun c24 hf => ?_) (fun c24 hf => ?_)
          · exact hk18 _ hf
          · refine g_iconst O dX5_isAllWords_33 (1 : Int32) (by decide) ?_
            refine g_goto 38 O dX5_isAllWords_34 (by decide) ?_
            exact hk9 _ hf
        · exact hk18 _ hf

set_option maxHeartbeats 4000000 in
set_option maxRecDepth 100000 in
theorem ct_X5_words {Z : ZT} (hZ : ZOk Z) {σ : Mem} {i0 : Nat} (h0 : kn i0 = 5) {r : Int32} (hf : fX5_words σ i0 = some r) : Ct Z yX5_words cX5_words 3 (some .int) 1 21 [.ref (za Z i0)] σ (some (.int r)) True σ := by
  refine ct_i hZ (by decide +kernel) (Nat.le_of_ble_eq_true rfl) hf (fun C K O hN hR hf => ?_)
  have O : Ok Z C RX5 cX5_words 3 1 21 := O
  change G Z C σ 0 [(0, .ref (za Z i0))] []
  unfold fX5_words at hf
  refine g_aload_n O dX5_words_0 0 rfl rfl ?_
  refine g_getI O dX5_words_1 fx_RX5_21 h0 ?_
  refine g_jn (fun (y1 : Int32) => G Z C σ 12 [(0, .ref (za Z i0))] [.int y1]) hf (fun y1 hf => ?_) (fun k1 hk1 hf => ?_)
  · refine g_istore_nP O dX5_words_12 rfl (by decide) [(1, .int y1), (0, .ref (za Z i0))] rfl ?_
    refine g_iconst O dX5_words_13 (0 : Int32) (by decide) ?_
    refine g_istore_nP O dX5_words_14 rfl (by decide) [(2, .int (0 : Int32)), (1, .int y1), (0, .ref (za Z i0))] rfl ?_
    refine g_lp hN (fun (a2 : Int32 × Int32) => G Z C σ 15 [(2, .int a2.1), (1, .int a2.2), (0, .ref (za Z i0))] []) hf (fun a2 _ hN2 hI2 hX2 hf => ?_)
    unfold sX5_words_15 at hf
    refine g_iload_n O dX5_words_15 0 rfl rfl ?_
    refine g_aload_n O dX5_words_16 2 rfl rfl ?_
    refine g_getI O dX5_words_17 fx_RX5_21 h0 ?_
    refine g_icmp_ge 47 O dX5_words_20 (by decide) hf (fun c3 hf => ?_) (fun c3 hf => ?_)
    · have hf := hX2 _ hf
      refine g_iload_n O dX5_words_47 1 rfl rfl ?_
      exact hR _ hf _ _ dX5_words_48
    · refine g_iload_n O dX5_words_23 1 rfl rfl ?_
      refine g_aload_n O dX5_words_24 2 rfl rfl ?_
      refine g_iload_n O dX5_words_25 0 rfl rfl ?_
      obtain ⟨q4, hq4, hf⟩ := k_obd hN2 hf
      refine g_callV (rest := [.int a2.2]) O dX5_words_26 (ct_X5_at hZ h0 hq4) vx_RX5_34 h0 rfl rfl (by decide) (Nat.le_of_ble_eq_true rfl) (fun hp5 => ?_)
      change G Z C σ 29 [(2, .int a2.1), (1, .int a2.2), (0, .ref (za Z i0))] [.int q4, .int a2.2]
      refine g_bipush O dX5_words_29 (32 : Int32) (by decide) ?_
      refine g_icmp_ne 38 O dX5_words_31 (by decide) hf (fun c6 hf => ?_) (fun c6 hf => ?_)
      · refine g_iconst O dX5_words_34 (1 : Int32) (by decide) ?_
        refine g_goto 39 O dX5_words_35 (by decide) ?_
        refine g_iadd O dX5_words_39 ?_
        refine g_istore_n O dX5_words_40 rfl (by decide) (fun y => [(1, .int y), (2, .int a2.1), (0, .ref (za Z i0))]) (fun _ => rfl) hf (fun x7 hf => ?_)
        refine g_iinc O dX5_words_41 1 rfl (by decide) (1) (by decide) (fun y => [(2, .int y), (1, .int x7), (0, .ref (za Z i0))]) (fun _ => rfl) hf (fun x8 hf => ?_)
        refine g_goto 15 O dX5_words_44 (by decide) ?_
        exact hI2 _ hf
      · refine g_iconst O dX5_words_38 (0 : Int32) (by decide) ?_
        refine g_iadd O dX5_words_39 ?_
        refine g_istore_n O dX5_words_40 rfl (by decide) (fun y => [(1, .int y), (2, .int a2.1), (0, .ref (za Z i0))]) (fun _ => rfl) hf (fun x9 hf => ?_)
        refine g_iinc O dX5_words_41 1 rfl (by decide) (1) (by decide) (fun y => [(2, .int y), (1, .int x9), (0, .ref (za Z i0))]) (fun _ => rfl) hf (fun x10 hf => ?_)
        refine g_goto 15 O dX5_words_44 (by decide) ?_
        exact hI2 _ hf
  · skip
    refine g_if_ne 11 O dX5_words_4 (by decide) hf (fun c11 hf => ?_) (fun c11 hf => ?_)
    · refine g_iconst O dX5_words_7 (0 : Int32) (by decide) ?_
      refine g_goto 12 O dX5_words_8 (by decide) ?_
      exact hk1 _ hf
    · refine g_iconst O dX5_words_11 (1 : Int32) (by decide) ?_
      exact hk1 _ hf

set_option maxHeartbeats 4000000 in
set_option maxRecDepth 100000 in
theorem ct_X7_begin {Z : ZT} (hZ : ZOk Z) {σ : Mem} {i0 : Nat} {p1 : Int32} {p2 : Int32} (h0 : kn i0 = 7) {r : Mem} (hf : fX7_begin σ i0 p1 p2 = some r) : Ct Z yX7_begin cX7_begin 3 none 1 23 [.ref (za Z i0), .int p1, .int p2] σ none True r := by
  refine ct_v hZ (by decide +kernel) (Nat.le_of_ble_eq_true rfl) hf (fun C K O hN hR hf => ?_)
  have O : Ok Z C RX7 cX7_begin 3 1 23 := O
  change G Z C σ 0 [(0, .ref (za Z i0)), (1, .int p1), (2, .int p2)] []
  unfold fX7_begin at hf
  refine g_aload_n O dX7_begin_0 0 rfl rfl ?_
  refine g_iload_n O dX7_begin_1 1 rfl rfl ?_
  refine g_putI O dX7_begin_2 fp_RX7_9 h0 hf (fun m1 hf => ?_)
  refine g_aload_n O dX7_begin_5 0 rfl rfl ?_
  refine g_iload_n O dX7_begin_6 2 rfl rfl ?_
  refine g_putI O dX7_begin_7 fp_RX7_19 h0 hf (fun m2 hf => ?_)
  refine g_aload_n O dX7_begin_10 0 rfl rfl ?_
  refine g_getR O dX7_begin_11 fx_RX7_15 h0 ?_
  refine g_iconst O dX7_begin_14 (0 : Int32) (by decide) ?_
  obtain ⟨q3, hq3, hf⟩ := k_obd hN hf
  refine g_callS (rest := []) O dX7_begin_15 (ct_J7_fill_53178 hZ (kf_7_2 h0) hq3) sx_RX7_22 rfl rfl (by decide) (Nat.le_of_ble_eq_true rfl) (fun hp4 => ?_)
  change G Z C q3 18 [(0, .ref (za Z i0)), (1, .int p1), (2, .int p2)] []
  exact hR _ hf _ _ dX7_begin_18

set_option maxHeartbeats 4000000 in
set_option maxRecDepth 100000 in
theorem ct_X7_isMissing {Z : ZT} (hZ : ZOk Z) {σ : Mem} {i0 : Nat} (h0 : kn i0 = 7) {r : Int32} (hf : fX7_isMissing σ i0 = some r) : Ct Z yX7_isMissing cX7_isMissing 1 (some .boolean) 0 0 [.ref (za Z i0)] σ (some (.int r)) (r = 0 ∨ r = 1) σ := by
  refine ct_z hZ (by decide +kernel) (Nat.le_of_ble_eq_true rfl) hf (fun C K O hN hR hf => ?_)
  have O : Ok Z C RX7 cX7_isMissing 1 0 0 := O
  change G Z C σ 0 [(0, .ref (za Z i0))] []
  unfold fX7_isMissing at hf
  refine g_aload_n O dX7_isMissing_0 0 rfl rfl ?_
  refine g_getI O dX7_isMissing_1 fx_RX7_9 h0 ?_
  refine g_iconst O dX7_isMissing_4 (-1 : Int32) (by decide) ?_
  refine g_icmp_ne 12 O dX7_isMissing_5 (by decide) hf (fun c1 hf => ?_) (fun c1 hf => ?_)
  · refine g_iconst O dX7_isMissing_8 (1 : Int32) (by decide) ?_
    refine g_goto 13 O dX7_isMissing_9 (by decide) ?_
    exact hR _ hf (Or.inr rfl) _ _ dX7_isMissing_13
  · refine g_iconst O dX7_isMissing_12 (0 : Int32) (by decide) ?_
    exact hR _ hf (Or.inl rfl) _ _ dX7_isMissing_13

set_option maxHeartbeats 4000000 in
set_option maxRecDepth 100000 in
theorem ct_X7_hasRun {Z : ZT} (hZ : ZOk Z) {σ : Mem} {i0 : Nat} {p1 : Int32} {p2 : Int32} (h0 : kn i0 = 7) {r : Int32} (hf : fX7_hasRun σ i0 p1 p2 = some r) : Ct Z yX7_hasRun cX7_hasRun 3 (some .boolean) 0 0 [.ref (za Z i0), .int p1, .int p2] σ (some (.int r)) (r = 0 ∨ r = 1) σ := by
  refine ct_z hZ (by decide +kernel) (Nat.le_of_ble_eq_true rfl) hf (fun C K O hN hR hf => ?_)
  have O : Ok Z C RX7 cX7_hasRun 3 0 0 := O
  change G Z C σ 0 [(0, .ref (za Z i0)), (1, .int p1), (2, .int p2)] []
  unfold fX7_hasRun at hf
  refine g_iload_n O dX7_hasRun_0 1 rfl rfl ?_
  refine g_if_lt 30 O dX7_hasRun_1 (by decide) hf (fun c1 hf => ?_) (fun c1 hf => ?_)
  · refine g_iconst O dX7_hasRun_30 (0 : Int32) (by decide) ?_
    exact hR _ hf (Or.inl rfl) _ _ dX7_hasRun_31
  · refine g_iload_n O dX7_hasRun_4 2 rfl rfl ?_
    refine g_if_lt 30 O dX7_hasRun_5 (by decide) hf (fun c2 hf => ?_) (fun c2 hf => ?_)
    · refine g_iconst O dX7_hasRun_30 (0 : Int32) (by decide) ?_
      exact hR _ hf (Or.inl rfl) _ _ dX7_hasRun_31
    · refine g_iload_n O dX7_hasRun_8 1 rfl rfl ?_
      refine g_aload_n O dX7_hasRun_9 0 rfl rfl ?_
      refine g_getI O dX7_hasRun_10 fx_RX7_19 h0 ?_
      refine g_icmp_gt 30 O dX7_hasRun_13 (by decide) hf (fun c3 hf => ?_) (fun c3 hf => ?_)
      · refine g_iconst O dX7_hasRun_30 (0 : Int32) (by decide) ?_
        exact hR _ hf (Or.inl rfl) _ _ dX7_hasRun_31
      · refine g_iload_n O dX7_hasRun_16 2 rfl rfl ?_
        refine g_aload_n O dX7_hasRun_17 0 rfl rfl ?_
        refine g_getI O dX7_hasRun_18 fx_RX7_19 h0 ?_
        refine g_iload_n O dX7_hasRun_21 1 rfl rfl ?_
        refine g_isub O dX7_hasRun_22 ?_
        refine g_icmp_gt 30 O dX7_hasRun_23 (by decide) hf (fun c4 hf => ?_) (fun c4 hf => ?_)
        · refine g_iconst O dX7_hasRun_30 (0 : Int32) (by decide) ?_
          exact hR _ hf (Or.inl rfl) _ _ dX7_hasRun_31
        · refine g_iconst O dX7_hasRun_26 (1 : Int32) (by decide) ?_
          refine g_goto 31 O dX7_hasRun_27 (by decide) ?_
          exact hR _ hf (Or.inr rfl) _ _ dX7_hasRun_31

set_option maxHeartbeats 4000000 in
set_option maxRecDepth 100000 in
theorem ct_X7_at {Z : ZT} (hZ : ZOk Z) {σ : Mem} {i0 : Nat} {p1 : Int32} (h0 : kn i0 = 7) {r : Int32} (hf : fX7_at σ i0 p1 = some r) : Ct Z yX7_at cX7_at 2 (some .int) 1 22 [.ref (za Z i0), .int p1] σ (some (.int r)) True σ := by
  refine ct_i hZ (by decide +kernel) (Nat.le_of_ble_eq_true rfl) hf (fun C K O hN hR hf => ?_)
  have O : Ok Z C RX7 cX7_at 2 1 22 := O
  change G Z C σ 0 [(0, .ref (za Z i0)), (1, .int p1)] []
  unfold fX7_at at hf
  refine g_aload_n O dX7_at_0 0 rfl rfl ?_
  refine g_iload_n O dX7_at_1 1 rfl rfl ?_
  refine g_iconst O dX7_at_2 (1 : Int32) (by decide) ?_
  obtain ⟨q1, hq1, hf⟩ := k_obd hN hf
  refine g_callV (rest := []) O dX7_at_3 (ct_X7_hasRun hZ h0 hq1) vx_RX7_28 h0 rfl rfl (by decide) (Nat.le_of_ble_eq_true rfl) (fun hp2 => ?_)
  change G Z C σ 6 [(0, .ref (za Z i0)), (1, .int p1)] [.int q1]
  refine g_if_eq 18 O dX7_at_6 (by decide) hf (fun c3 hf => ?_) (fun c3 hf => ?_)
  · refine g_iconst O dX7_at_18 (0 : Int32) (by decide) ?_
    exact hR _ hf _ _ dX7_at_19
  · refine g_aload_n O dX7_at_9 0 rfl rfl ?_
    refine g_getR O dX7_at_10 fx_RX7_15 h0 ?_
    refine g_iload_n O dX7_at_13 1 rfl rfl ?_
    refine g_iald O hN dX7_at_14 (kf_7_2 h0) hf (fun hf => ?_)
    refine g_goto 19 O dX7_at_15 (by decide) ?_
    exact hR _ hf _ _ dX7_at_19

set_option maxHeartbeats 4000000 in
set_option maxRecDepth 100000 in
theorem ct_X7_set {Z : ZT} (hZ : ZOk Z) {σ : Mem} {i0 : Nat} {p1 : Int32} {p2 : Int32} (h0 : kn i0 = 7) {r : Mem} (hf : fX7_set σ i0 p1 p2 = some r) : Ct Z yX7_set cX7_set 3 none 1 22 [.ref (za Z i0), .int p1, .int p2] σ none True r := by
  refine ct_v hZ (by decide +kernel) (Nat.le_of_ble_eq_true rfl) hf (fun C K O hN hR hf => ?_)
  have O : Ok Z C RX7 cX7_set 3 1 22 := O
  change G Z C σ 0 [(0, .ref (za Z i0)), (1, .int p1), (2, .int p2)] []
  unfold fX7_set at hf
  refine g_aload_n O dX7_set_0 0 rfl rfl ?_
  refine g_iload_n O dX7_set_1 1 rfl rfl ?_
  refine g_iconst O dX7_set_2 (1 : Int32) (by decide) ?_
  obtain ⟨q1, hq1, hf⟩ := k_obd hN hf
  refine g_callV (rest := []) O dX7_set_3 (ct_X7_hasRun hZ h0 hq1) vx_RX7_28 h0 rfl rfl (by decide) (Nat.le_of_ble_eq_true rfl) (fun hp2 => ?_)
  change G Z C σ 6 [(0, .ref (za Z i0)), (1, .int p1), (2, .int p2)] [.int q1]
  refine g_if_eq 28 O dX7_set_6 (by decide) hf (fun c3 hf => ?_) (fun c3 hf => ?_)
  · exact hR _ hf _ _ dX7_set_28
  · refine g_aload_n O dX7_set_9 0 rfl rfl ?_
    refine g_getR O dX7_set_10 fx_RX7_15 h0 ?_
    refine g_iload_n O dX7_set_13 1 rfl rfl ?_
    refine g_aload_n O dX7_set_14 0 rfl rfl ?_
    refine g_getI O dX7_set_15 fx_RX7_9 h0 ?_
    refine g_jn (fun (y4 : Int32) => G Z C σ 27 [] [.int y4, .int p1, .ref (za Z (i0 + 1))]) hf (fun y4 hf => ?_) (fun k4 hk4 hf => ?_)
    · refine g_iast O hN dX7_set_27 (kf_7_2 h0) hf (fun m5 hf => ?_)
      exact hR _ hf _ _ dX7_set_28
    · skip
      refine g_if_ne 26 O dX7_set_18 (by decide) hf (fun c6 hf => ?_) (fun c6 hf => ?_)
      · refine g_iload_n O dX7_set_21 2 rfl rfl ?_
        refine g_i2s O dX7_set_22 ?_
        refine g_goto 27 O dX7_set_23 (by decide) ?_
        refine g_sub [] rfl ?_
        exact hk4 _ hf
      · refine g_iload_n O dX7_set_26 2 rfl rfl ?_
        refine g_sub [] rfl ?_
        exact hk4 _ hf

set_option maxHeartbeats 4000000 in
set_option maxRecDepth 100000 in
theorem ct_X7_take {Z : ZT} (hZ : ZOk Z) {σ : Mem} {i0 : Nat} {p1 : Int32} {i2 : Nat} {p3 : Int32} {p4 : Int32} (h0 : kn i0 = 7) (h2 : kn i2 = 7) {r : Mem} (hf : fX7_take σ i0 p1 i2 p3 p4 = some r) : Ct Z yX7_take cX7_take 5 none 1 40 [.ref (za Z i0), .int p1, .ref (za Z i2), .int p3, .int p4] σ none True r := by
  refine ct_v hZ (by decide +kernel) (Nat.le_of_ble_eq_true rfl) hf (fun C K O hN hR hf => ?_)
  have O : Ok Z C RX7 cX7_take 5 1 40 := O
  change G Z C σ 0 [(0, .ref (za Z i0)), (1, .int p1), (2, .ref (za Z i2)), (3, .int p3), (4, .int p4)] []
  unfold fX7_take at hf
  refine g_aload_n O dX7_take_0 2 rfl rfl ?_
  refine g_iload_n O dX7_take_1 3 rfl rfl ?_
  refine g_iload O dX7_take_2 4 rfl ?_
  obtain ⟨q1, hq1, hf⟩ := k_obd hN hf
  refine g_callV (rest := []) O dX7_take_4 (ct_X7_hasRun hZ h2 hq1) vx_RX7_28 h2 rfl rfl (by decide) (Nat.le_of_ble_eq_true rfl) (fun hp2 => ?_)
  change G Z C σ 7 [(0, .ref (za Z i0)), (1, .int p1), (2, .ref (za Z i2)), (3, .int p3), (4, .int p4)] [.int q1]
  refine g_if_eq 35 O dX7_take_7 (by decide) hf (fun c3 hf => ?_) (fun c3 hf => ?_)
  · exact hR _ hf _ _ dX7_take_35
  · refine g_aload_n O dX7_take_10 0 rfl rfl ?_
    refine g_iload_n O dX7_take_11 1 rfl rfl ?_
    refine g_iload O dX7_take_12 4 rfl ?_
    obtain ⟨q4, hq4, hf⟩ := k_obd hN hf
    refine g_callV (rest := []) O dX7_take_14 (ct_X7_hasRun hZ h0 hq4) vx_RX7_28 h0 rfl rfl (by decide) (Nat.le_of_ble_eq_true rfl) (fun hp5 => ?_)
    change G Z C σ 17 [(0, .ref (za Z i0)), (1, .int p1), (2, .ref (za Z i2)), (3, .int p3), (4, .int p4)] [.int q4]
    refine g_if_eq 35 O dX7_take_17 (by decide) hf (fun c6 hf => ?_) (fun c6 hf => ?_)
    · exact hR _ hf _ _ dX7_take_35
    · refine g_aload_n O dX7_take_20 2 rfl rfl ?_
      refine g_getR O dX7_take_21 fx_RX7_15 h2 ?_
      refine g_iload_n O dX7_take_24 3 rfl rfl ?_
      refine g_aload_n O dX7_take_25 0 rfl rfl ?_
      refine g_getR O dX7_take_26 fx_RX7_15 h0 ?_
      refine g_iload_n O dX7_take_29 1 rfl rfl ?_
      refine g_iload O dX7_take_30 4 rfl ?_
      refine g_copy O hN dX7_take_32 lm_RX7_32 mm_copy.1 mm_copy.2.1 mm_copy.2.2 (kf_7_2 h2) (kf_7_2 h0) (by decide) (by decide) (Nat.le_of_ble_eq_true rfl) hf (fun m7 hf => ?_)
      exact hR _ hf _ _ dX7_take_35

set_option maxHeartbeats 4000000 in
set_option maxRecDepth 100000 in
theorem ct_X8_addSpelled {Z : ZT} (hZ : ZOk Z) {σ : Mem} {i0 : Nat} (h0 : kn i0 = 8) {r : Mem} (hf : fX8_addSpelled σ i0 = some r) : Ct Z yX8_addSpelled cX8_addSpelled 2 none 1 21 [.ref (za Z i0)] σ none True r := by
  refine ct_v hZ (by decide +kernel) (Nat.le_of_ble_eq_true rfl) hf (fun C K O hN hR hf => ?_)
  have O : Ok Z C RX8 cX8_addSpelled 2 1 21 := O
  change G Z C σ 0 [(0, .ref (za Z i0))] []
  unfold fX8_addSpelled at hf
  refine g_aload_n O dX8_addSpelled_0 0 rfl rfl ?_
  refine g_getI O dX8_addSpelled_1 fx_RX8_30 h0 ?_
  refine g_jn (fun (y1 : Mem) => G Z C y1 16 [(0, .ref (za Z i0))] []) hf (fun y1 hf => ?_) (fun k1 hk1 hf => ?_)
  · refine g_iconst O dX8_addSpelled_16 (0 : Int32) (by decide) ?_
    refine g_istore_nP O dX8_addSpelled_17 rfl (by decide) [(1, .int (0 : Int32)), (0, .ref (za Z i0))] rfl ?_
    refine g_lp hN (fun (a2 : Int32 × Mem) => G Z C a2.2 18 [(1, .int a2.1), (0, .ref (za Z i0))] []) hf (fun a2 _ hN2 hI2 hX2 hf => ?_)
    unfold sX8_addSpelled_18 at hf
    refine g_iload_n O dX8_addSpelled_18 0 rfl rfl ?_
    refine g_aload_n O dX8_addSpelled_19 1 rfl rfl ?_
    refine g_getR O dX8_addSpelled_20 fx_RX8_14 h0 ?_
    refine g_getI O dX8_addSpelled_23 fx_RX8_73 (kf_8_0 h0) ?_
    refine g_icmp_ge 50 O dX8_addSpelled_26 (by decide) hf (fun c3 hf => ?_) (fun c3 hf => ?_)
    · have hf := hX2 _ hf
      refine g_aload_n O dX8_addSpelled_50 1 rfl rfl ?_
      refine g_getI O dX8_addSpelled_51 fx_RX8_30 h0 ?_
      refine g_bipush O dX8_addSpelled_54 (6 : Int32) (by decide) ?_
      refine g_icmp_ge 85 O dX8_addSpelled_56 (by decide) hf (fun c4 hf => ?_) (fun c4 hf => ?_)
      · exact hR _ hf _ _ dX8_addSpelled_85
      · refine g_aload_n O dX8_addSpelled_59 1 rfl rfl ?_
        refine g_getR O dX8_addSpelled_60 fx_RX8_23 h0 ?_
        refine g_aload_n O dX8_addSpelled_63 1 rfl rfl ?_
        refine g_getI O dX8_addSpelled_64 fx_RX8_30 h0 ?_
        refine g_aload_n O dX8_addSpelled_67 1 rfl rfl ?_
        refine g_getR O dX8_addSpelled_68 fx_RX8_14 h0 ?_
        refine g_getI O dX8_addSpelled_71 fx_RX8_73 (kf_8_0 h0) ?_
        refine g_iast O hN dX8_addSpelled_74 (kf_8_2 h0) hf (fun m5 hf => ?_)
        refine g_aload_n O dX8_addSpelled_75 1 rfl rfl ?_
        refine g_dup O dX8_addSpelled_76 rfl ?_
        refine g_getI O dX8_addSpelled_77 fx_RX8_30 h0 ?_
        refine g_iconst O dX8_addSpelled_80 (1 : Int32) (by decide) ?_
        refine g_iadd O dX8_addSpelled_81 ?_
        refine g_putI O dX8_addSpelled_82 fp_RX8_30 h0 hf (fun m6 hf => ?_)
        exact hR _ hf _ _ dX8_addSpelled_85
    · refine g_aload_n O dX8_addSpelled_29 1 rfl rfl ?_
      refine g_getR O dX8_addSpelled_30 fx_RX8_20 h0 ?_
      refine g_aload_n O dX8_addSpelled_33 1 rfl rfl ?_
      refine g_getR O dX8_addSpelled_34 fx_RX8_14 h0 ?_
      refine g_iload_n O dX8_addSpelled_37 0 rfl rfl ?_
      obtain ⟨q7, hq7, hf⟩ := k_obd hN2 hf
      refine g_callV (rest := [.ref (za Z (i0 + 3))]) O dX8_addSpelled_38 (ct_X5_at hZ (kf_8_0 h0) hq7) vx_RX8_74 (kf_8_0 h0) rfl rfl (by decide) (Nat.le_of_ble_eq_true rfl) (fun hp8 => ?_)
      change G Z C a2.2 41 [(1, .int a2.1), (0, .ref (za Z i0))] [.int q7, .ref (za Z (i0 + 3))]
      obtain ⟨q9, hq9, hf⟩ := k_obd hN2 hf
      refine g_callV (rest := []) O dX8_addSpelled_41 (ct_X5_add hZ (kf_8_1 h0) hq9) vx_RX8_85 (kf_8_1 h0) rfl rfl (by decide) (Nat.le_of_ble_eq_true rfl) (fun hp10 => ?_)
      change G Z C q9 44 [(1, .int a2.1), (0, .ref (za Z i0))] []
      refine g_iinc O dX8_addSpelled_44 0 rfl (by decide) (1) (by decide) (fun y => [(1, .int y), (0, .ref (za Z i0))]) (fun _ => rfl) hf (fun x11 hf => ?_)
      refine g_goto 18 O dX8_addSpelled_47 (by decide) ?_
      exact hI2 _ hf
  · skip
    refine g_if_le 16 O dX8_addSpelled_4 (by decide) hf (fun c12 hf => ?_) (fun c12 hf => ?_)
    · exact hk1 _ hf
    · refine g_aload_n O dX8_addSpelled_7 0 rfl rfl ?_
      refine g_getR O dX8_addSpelled_8 fx_RX8_20 h0 ?_
      refine g_bipush O dX8_addSpelled_11 (32 : Int32) (by decide) ?_
      obtain ⟨q13, hq13, hf⟩ := k_obd hN hf
      refine g_callV (rest := []) O dX8_addSpelled_13 (ct_X5_add hZ (kf_8_1 h0) hq13) vx_RX8_85 (kf_8_1 h0) rfl rfl (by decide) (Nat.le_of_ble_eq_true rfl) (fun hp14 => ?_)
      change G Z C q13 16 [(0, .ref (za Z i0))] []
      exact hk1 _ hf

set_option maxHeartbeats 4000000 in
set_option maxRecDepth 100000 in
theorem ct_X8_agreement {Z : ZT} (hZ : ZOk Z) {σ : Mem} {i0 : Nat} {i1 : Nat} {p2 : Int32} {p3 : Int32} (h0 : kn i0 = 0) (h1 : kn i1 = 2) {r : Int32} (hf : fX8_agreement σ i0 i1 p2 p3 = some r) : Ct Z yX8_agreement cX8_agreement 8 (some .int) 2 42 [.ref (za Z i0), .ref (za Z i1), .int p2, .int p3] σ (some (.int r)) True σ := by
  refine ct_i hZ (by decide +kernel) (Nat.le_of_ble_eq_true rfl) hf (fun C K O hN hR hf => ?_)
  have O : Ok Z C RX8 cX8_agreement 8 2 42 := O
  change G Z C σ 0 [(0, .ref (za Z i0)), (1, .ref (za Z i1)), (2, .int p2), (3, .int p3)] []
  unfold fX8_agreement at hf
  refine g_aload_n O dX8_agreement_0 0 rfl rfl ?_
  refine g_aload_n O dX8_agreement_1 1 rfl rfl ?_
  refine g_getI O dX8_agreement_2 fx_RX8_34 h1 ?_
  obtain ⟨q1, hq1, hf⟩ := k_obd hN hf
  refine g_callV (rest := []) O dX8_agreement_5 (ct_X0_frameAt hZ h0 hq1) vx_RX8_39 h0 rfl rfl (by decide) (Nat.le_of_ble_eq_true rfl) (fun hp2 => ?_)
  refine k_ocs hf (fun he hf1 => ?_) (fun w3 he hf1 => ?_)
  · subst he
    have hf := hf1
    change G Z C σ 8 [(0, .ref (za Z i0)), (1, .ref (za Z i1)), (2, .int p2), (3, .int p3)] [.null]
    refine g_astoreN O dX8_agreement_8 (by decide) [(4, .null), (0, .ref (za Z i0)), (1, .ref (za Z i1)), (2, .int p2), (3, .int p3)] rfl ?_
    refine g_aloadN O dX8_agreement_10 0 rfl ?_
    refine g_ifnullN 25 O dX8_agreement_12 (by decide) ?_
    refine g_iconst O dX8_agreement_25 (0 : Int32) (by decide) ?_
    exact hR _ hf _ _ dX8_agreement_26
  · subst he
    have hf := hf1
    change G Z C σ 8 [(0, .ref (za Z i0)), (1, .ref (za Z i1)), (2, .int p2), (3, .int p3)] [.ref (za Z w3)]
    refine g_astoreP O dX8_agreement_8 (by decide) [(4, .ref (za Z w3)), (0, .ref (za Z i0)), (1, .ref (za Z i1)), (2, .int p2), (3, .int p3)] rfl ?_
    refine g_aload O dX8_agreement_10 0 rfl ?_
    refine g_ifnullR O dX8_agreement_12 ?_
    refine g_aload O dX8_agreement_15 0 rfl ?_
    refine g_iload_n O dX8_agreement_17 3 rfl rfl ?_
    obtain ⟨q4, hq4, hf⟩ := k_obd hN hf
    refine g_callV (rest := []) O dX8_agreement_18 (ct_X3_groupOf hZ (hp2 _ rfl) hq4) vx_RX8_88 (hp2 _ rfl) rfl rfl (by decide) (Nat.le_of_ble_eq_true rfl) (fun hp5 => ?_)
    change G Z C σ 21 [(4, .ref (za Z w3)), (0, .ref (za Z i0)), (1, .ref (za Z i1)), (2, .int p2), (3, .int p3)] [.int q4]
    refine g_iconst O dX8_agreement_21 (-1 : Int32) (by decide) ?_
    refine g_icmp_ne 27 O dX8_agreement_22 (by decide) hf (fun c6 hf => ?_) (fun c6 hf => ?_)
    · refine g_iconst O dX8_agreement_25 (0 : Int32) (by decide) ?_
      exact hR _ hf _ _ dX8_agreement_26
    · refine g_aload O dX8_agreement_27 0 rfl ?_
      refine g_iload_n O dX8_agreement_29 3 rfl rfl ?_
      obtain ⟨q7, hq7, hf⟩ := k_obd hN hf
      refine g_callV (rest := []) O dX8_agreement_30 (ct_X3_groupOf hZ (hp2 _ rfl) hq7) vx_RX8_88 (hp2 _ rfl) rfl rfl (by decide) (Nat.le_of_ble_eq_true rfl) (fun hp8 => ?_)
      change G Z C σ 33 [(4, .ref (za Z w3)), (0, .ref (za Z i0)), (1, .ref (za Z i1)), (2, .int p2), (3, .int p3)] [.int q7]
      refine g_istoreP O dX8_agreement_33 (by decide) [(5, .int q7), (4, .ref (za Z w3)), (0, .ref (za Z i0)), (1, .ref (za Z i1)), (2, .int p2), (3, .int p3)] rfl ?_
      refine g_aload_n O dX8_agreement_35 2 rfl rfl ?_
      refine g_aload_n O dX8_agreement_36 3 rfl rfl ?_
      refine g_aload O dX8_agreement_37 1 rfl ?_
      refine g_iload O dX8_agreement_39 0 rfl ?_
      obtain ⟨q9, hq9, hf⟩ := k_obd hN hf
      refine g_callV (rest := [.ref (za Z i1), .ref (za Z i0)]) O dX8_agreement_41 (ct_X3_nounOf hZ (hp2 _ rfl) hq9) vx_RX8_91 (hp2 _ rfl) rfl rfl (by decide) (Nat.le_of_ble_eq_true rfl) (fun hp10 => ?_)
      change G Z C σ 44 [(5, .int q7), (4, .ref (za Z w3)), (0, .ref (za Z i0)), (1, .ref (za Z i1)), (2, .int p2), (3, .int p3)] [.int q9, .ref (za Z i1), .ref (za Z i0)]
      obtain ⟨q11, hq11, hf⟩ := k_obd hN hf
      refine g_callV (rest := [.ref (za Z i0)]) O dX8_agreement_44 (ct_X2_wordIn hZ h1 hq11) vx_RX8_50 h1 rfl rfl (by decide) (Nat.le_of_ble_eq_true rfl) (fun hp12 => ?_)
      change G Z C σ 47 [(5, .int q7), (4, .ref (za Z w3)), (0, .ref (za Z i0)), (1, .ref (za Z i1)), (2, .int p2), (3, .int p3)] [.int q11, .ref (za Z i0)]
      obtain ⟨q13, hq13, hf⟩ := k_obd hN hf
      refine g_callV (rest := []) O dX8_agreement_47 (ct_X0_wordAt hZ h0 hq13) vx_RX8_54 h0 rfl rfl (by decide) (Nat.le_of_ble_eq_true rfl) (fun hp14 => ?_)
      refine k_ocs hf (fun he hf1 => ?_) (fun w15 he hf1 => ?_)
      · subst he
        have hf := hf1
        change G Z C σ 50 [(5, .int q7), (4, .ref (za Z w3)), (0, .ref (za Z i0)), (1, .ref (za Z i1)), (2, .int p2), (3, .int p3)] [.null]
        refine g_astoreN O dX8_agreement_50 (by decide) [(6, .null), (5, .int q7), (4, .ref (za Z w3)), (0, .ref (za Z i0)), (1, .ref (za Z i1)), (2, .int p2), (3, .int p3)] rfl ?_
        refine g_aloadN O dX8_agreement_52 0 rfl ?_
        refine g_ifnonnullN O dX8_agreement_54 ?_
        refine g_iconst O dX8_agreement_57 (0 : Int32) (by decide) ?_
        exact hR _ hf _ _ dX8_agreement_58
      · subst he
        have hf := hf1
        change G Z C σ 50 [(5, .int q7), (4, .ref (za Z w3)), (0, .ref (za Z i0)), (1, .ref (za Z i1)), (2, .int p2), (3, .int p3)] [.ref (za Z w15)]
        refine g_astoreP O dX8_agreement_50 (by decide) [(6, .ref (za Z w15)), (5, .int q7), (4, .ref (za Z w3)), (0, .ref (za Z i0)), (1, .ref (za Z i1)), (2, .int p2), (3, .int p3)] rfl ?_
        refine g_aload O dX8_agreement_52 0 rfl ?_
        refine g_ifnonnullR 59 O dX8_agreement_54 (by decide) ?_
        refine g_aload O dX8_agreement_59 0 rfl ?_
        refine g_getI O dX8_agreement_61 fx_RX8_94 (hp14 _ rfl) ?_
        refine g_iconst O dX8_agreement_64 (3 : Int32) (by decide) ?_
        refine g_jn (fun (y16 : Int32) => G Z C σ 78 [(6, .ref (za Z w15)), (4, .ref (za Z w3)), (2, .int p2)] [.int y16]) hf (fun y16 hf => ?_) (fun k16 hk16 hf => ?_)
        · refine g_istoreP O dX8_agreement_78 (by decide) [(7, .int y16), (6, .ref (za Z w15)), (4, .ref (za Z w3)), (2, .int p2)] rfl ?_
          refine g_aload O dX8_agreement_80 2 rfl ?_
          refine g_iload_n O dX8_agreement_82 3 rfl rfl ?_
          obtain ⟨q17, hq17, hf⟩ := k_obd hN hf
          refine g_callV (rest := []) O dX8_agreement_83 (ct_X3_caseOf hZ (hp2 _ rfl) hq17) vx_RX8_99 (hp2 _ rfl) rfl rfl (by decide) (Nat.le_of_ble_eq_true rfl) (fun hp18 => ?_)
          change G Z C σ 86 [(7, .int y16), (6, .ref (za Z w15)), (4, .ref (za Z w3)), (2, .int p2)] [.int q17]
          refine g_iconst O dX8_agreement_86 (0 : Int32) (by decide) ?_
          refine g_mmax O dX8_agreement_87 lm_RX8_102 mm_max.1 mm_max.2.1 mm_max.2.2 (by decide) (Nat.le_of_ble_eq_true rfl) ?_
          refine g_iload O dX8_agreement_90 0 rfl ?_
          refine g_iconst O dX8_agreement_92 (4 : Int32) (by decide) ?_
          refine g_imul O dX8_agreement_93 ?_
          refine g_iadd O dX8_agreement_94 ?_
          refine g_aload O dX8_agreement_95 1 rfl ?_
          refine g_getI O dX8_agreement_97 fx_RX8_108 (hp14 _ rfl) ?_
          refine g_bipush O dX8_agreement_100 (8 : Int32) (by decide) ?_
          refine g_imul O dX8_agreement_102 ?_
          refine g_iadd O dX8_agreement_103 ?_
          exact hR _ hf _ _ dX8_agreement_104
        · skip
          refine g_icmp_ne 72 O dX8_agreement_65 (by decide) hf (fun c19 hf => ?_) (fun c19 hf => ?_)
          · refine g_iconst O dX8_agreement_68 (0 : Int32) (by decide) ?_
            refine g_goto 78 O dX8_agreement_69 (by decide) ?_
            refine g_sub [0, 2, 5] rfl ?_
            exact hk16 _ hf
          · refine g_iload_n O dX8_agreement_72 6 rfl rfl ?_
            refine g_iload O dX8_agreement_73 1 rfl ?_
            refine g_ishr O dX8_agreement_75 ?_
            refine g_iconst O dX8_agreement_76 (1 : Int32) (by decide) ?_
            refine g_iand O dX8_agreement_77 ?_
            refine g_sub [0, 2, 5] rfl ?_
            exact hk16 _ hf

set_option maxHeartbeats 4000000 in
set_option maxRecDepth 100000 in
theorem ct_X8_say {Z : ZT} (hZ : ZOk Z) {σ : Mem} {i0 : Nat} {i1 : Nat} {i2 : Nat} {p3 : Int32} {p4 : Int32} (h0 : kn i0 = 8) (h1 : kn i1 = 0) (h2 : kn i2 = 2) {r : (Int32 × Mem)} (hf : fX8_say σ i0 i1 i2 p3 p4 = some r) : Ct Z yX8_say cX8_say 8 (some .boolean) 3 89 [.ref (za Z i0), .ref (za Z i1), .ref (za Z i2), .int p3, .int p4] σ (some (.int r.1)) (r.1 = 0 ∨ r.1 = 1) r.2 := by
  refine ct_zm hZ (by decide +kernel) (Nat.le_of_ble_eq_true rfl) hf (fun C K O hN hR hf => ?_)
  have O : Ok Z C RX8 cX8_say 8 3 89 := O
  change G Z C σ 0 [(0, .ref (za Z i0)), (1, .ref (za Z i1)), (2, .ref (za Z i2)), (3, .int p3), (4, .int p4)] []
  unfold fX8_say at hf
  refine g_aload_n O dX8_say_0 0 rfl rfl ?_
  refine g_getR O dX8_say_1 fx_RX8_20 h0 ?_
  obtain ⟨q1, hq1, hf⟩ := k_obd hN hf
  refine g_callV (rest := []) O dX8_say_4 (ct_X5_clear hZ (kf_8_1 h0) hq1) vx_RX8_27 (kf_8_1 h0) rfl rfl (by decide) (Nat.le_of_ble_eq_true rfl) (fun hp2 => ?_)
  change G Z C q1 7 [(0, .ref (za Z i0)), (1, .ref (za Z i1)), (2, .ref (za Z i2)), (3, .int p3), (4, .int p4)] []
  refine g_aload_n O dX8_say_7 0 rfl rfl ?_
  refine g_iconst O dX8_say_8 (0 : Int32) (by decide) ?_
  refine g_putI O dX8_say_9 fp_RX8_30 h0 hf (fun m3 hf => ?_)
  refine g_aload_n O dX8_say_12 1 rfl rfl ?_
  refine g_aload_n O dX8_say_13 2 rfl rfl ?_
  refine g_getI O dX8_say_14 fx_RX8_34 h2 ?_
  obtain ⟨q4, hq4, hf⟩ := k_obd hN hf
  refine g_callV (rest := []) O dX8_say_17 (ct_X0_frameAt hZ h1 hq4) vx_RX8_39 h1 rfl rfl (by decide) (Nat.le_of_ble_eq_true rfl) (fun hp5 => ?_)
  refine k_ocs hf (fun he hf1 => ?_) (fun w6 he hf1 => ?_)
  · subst he
    have hf := hf1
    change G Z C m3 20 [(0, .ref (za Z i0)), (1, .ref (za Z i1)), (2, .ref (za Z i2)), (3, .int p3), (4, .int p4)] [.null]
    refine g_astoreN O dX8_say_20 (by decide) [(5, .null), (0, .ref (za Z i0)), (1, .ref (za Z i1)), (2, .ref (za Z i2)), (3, .int p3), (4, .int p4)] rfl ?_
    refine g_aloadN O dX8_say_22 0 rfl ?_
    refine g_ifnonnullN O dX8_say_24 ?_
    refine g_iconst O dX8_say_27 (0 : Int32) (by decide) ?_
    exact hR _ _ hf (Or.inl rfl) _ _ dX8_say_28
  · subst he
    have hf := hf1
    change G Z C m3 20 [(0, .ref (za Z i0)), (1, .ref (za Z i1)), (2, .ref (za Z i2)), (3, .int p3), (4, .int p4)] [.ref (za Z w6)]
    refine g_astoreP O dX8_say_20 (by decide) [(5, .ref (za Z w6)), (0, .ref (za Z i0)), (1, .ref (za Z i1)), (2, .ref (za Z i2)), (3, .int p3), (4, .int p4)] rfl ?_
    refine g_aload O dX8_say_22 0 rfl ?_
    refine g_ifnonnullR 29 O dX8_say_24 (by decide) ?_
    refine g_iconst O dX8_say_29 (0 : Int32) (by decide) ?_
    refine g_istoreP O dX8_say_30 (by decide) [(6, .int (0 : Int32)), (5, .ref (za Z w6)), (0, .ref (za Z i0)), (1, .ref (za Z i1)), (2, .ref (za Z i2)), (3, .int p3), (4, .int p4)] rfl ?_
    refine g_lp hN (fun (a7 : Int32 × Mem) => G Z C a7.2 32 [(6, .int a7.1), (5, .ref (za Z w6)), (0, .ref (za Z i0)), (1, .ref (za Z i1)), (2, .ref (za Z i2)), (3, .int p3), (4, .int p4)] []) hf (fun a7 _ hN7 hI7 hX7 hf => ?_)
    unfold sX8_say_32 at hf
    refine g_iload O dX8_say_32 0 rfl ?_
    refine g_aload O dX8_say_34 1 rfl ?_
    refine g_getI O dX8_say_36 fx_RX8_45 (hp5 _ rfl) ?_
    refine g_icmp_ge 107 O dX8_say_39 (by decide) hf (fun c8 hf => ?_) (fun c8 hf => ?_)
    · have hf := hX7 _ hf
      refine g_iconst O dX8_say_107 (1 : Int32) (by decide) ?_
      exact hR _ _ hf (Or.inr rfl) _ _ dX8_say_108
    · refine g_aload_n O dX8_say_42 3 rfl rfl ?_
      refine g_aload_n O dX8_say_43 4 rfl rfl ?_
      refine g_iload O dX8_say_44 0 rfl ?_
      obtain ⟨q9, hq9, hf⟩ := k_obd hN7 hf
      refine g_callV (rest := [.ref (za Z i1)]) O dX8_say_46 (ct_X2_wordIn hZ h2 hq9) vx_RX8_50 h2 rfl rfl (by decide) (Nat.le_of_ble_eq_true rfl) (fun hp10 => ?_)
      change G Z C a7.2 49 [(6, .int a7.1), (5, .ref (za Z w6)), (0, .ref (za Z i0)), (1, .ref (za Z i1)), (2, .ref (za Z i2)), (3, .int p3), (4, .int p4)] [.int q9, .ref (za Z i1)]
      obtain ⟨q11, hq11, hf⟩ := k_obd hN7 hf
      refine g_callV (rest := []) O dX8_say_49 (ct_X0_wordAt hZ h1 hq11) vx_RX8_54 h1 rfl rfl (by decide) (Nat.le_of_ble_eq_true rfl) (fun hp12 => ?_)
      refine k_ocs hf (fun he hf1 => ?_) (fun w13 he hf1 => ?_)
      · subst he
        have hf := hf1
        change G Z C a7.2 52 [(6, .int a7.1), (5, .ref (za Z w6)), (0, .ref (za Z i0)), (1, .ref (za Z i1)), (2, .ref (za Z i2)), (3, .int p3), (4, .int p4)] [.null]
        refine g_astoreN O dX8_say_52 (by decide) [(7, .null), (6, .int a7.1), (5, .ref (za Z w6)), (0, .ref (za Z i0)), (1, .ref (za Z i1)), (2, .ref (za Z i2)), (3, .int p3), (4, .int p4)] rfl ?_
        refine g_aloadN O dX8_say_54 0 rfl ?_
        refine g_ifnonnullN O dX8_say_56 ?_
        have hf := hX7 _ hf
        refine g_aload_n O dX8_say_59 3 rfl rfl ?_
        refine g_getR O dX8_say_60 fx_RX8_20 h0 ?_
        obtain ⟨q14, hq14, hf⟩ := k_obd hN hf
        refine g_callV (rest := []) O dX8_say_63 (ct_X5_clear hZ (kf_8_1 h0) hq14) vx_RX8_27 (kf_8_1 h0) rfl rfl (by decide) (Nat.le_of_ble_eq_true rfl) (fun hp15 => ?_)
        change G Z C q14 66 [(7, .null), (6, .int a7.1), (5, .ref (za Z w6)), (0, .ref (za Z i0)), (1, .ref (za Z i1)), (2, .ref (za Z i2)), (3, .int p3), (4, .int p4)] []
        refine g_aload_n O dX8_say_66 3 rfl rfl ?_
        refine g_iconst O dX8_say_67 (0 : Int32) (by decide) ?_
        refine g_putI O dX8_say_68 fp_RX8_30 h0 hf (fun m16 hf => ?_)
        refine g_iconst O dX8_say_71 (0 : Int32) (by decide) ?_
        exact hR _ _ hf (Or.inl rfl) _ _ dX8_say_72
      · subst he
        have hf := hf1
        change G Z C a7.2 52 [(6, .int a7.1), (5, .ref (za Z w6)), (0, .ref (za Z i0)), (1, .ref (za Z i1)), (2, .ref (za Z i2)), (3, .int p3), (4, .int p4)] [.ref (za Z w13)]
        refine g_astoreP O dX8_say_52 (by decide) [(7, .ref (za Z w13)), (6, .int a7.1), (5, .ref (za Z w6)), (0, .ref (za Z i0)), (1, .ref (za Z i1)), (2, .ref (za Z i2)), (3, .int p3), (4, .int p4)] rfl ?_
        refine g_aload O dX8_say_54 0 rfl ?_
        refine g_ifnonnullR 73 O dX8_say_56 (by decide) ?_
        refine g_aload_n O dX8_say_73 4 rfl rfl ?_
        refine g_aload O dX8_say_74 0 rfl ?_
        refine g_aload_n O dX8_say_76 4 rfl rfl ?_
        refine g_aload_n O dX8_say_77 5 rfl rfl ?_
        refine g_iload O dX8_say_78 1 rfl ?_
        refine g_iload O dX8_say_80 7 rfl ?_
        obtain ⟨q17, hq17, hf⟩ := k_obd hN7 hf
        refine g_callS (rest := [.ref (za Z w13), .ref (za Z i1)]) O dX8_say_82 (ct_X8_agreement hZ h1 h2 hq17) sx_RX8_58 rfl rfl (by decide) (Nat.le_of_ble_eq_true rfl) (fun hp18 => ?_)
        change G Z C a7.2 85 [(7, .ref (za Z w13)), (6, .int a7.1), (5, .ref (za Z w6)), (0, .ref (za Z i0)), (1, .ref (za Z i1)), (2, .ref (za Z i2)), (3, .int p3), (4, .int p4)] [.int q17, .ref (za Z w13), .ref (za Z i1)]
        refine g_iload_n O dX8_say_85 6 rfl rfl ?_
        refine g_bipush O dX8_say_86 (24 : Int32) (by decide) ?_
        refine g_imul O dX8_say_88 ?_
        refine g_iadd O dX8_say_89 ?_
        refine g_aload_n O dX8_say_90 3 rfl rfl ?_
        refine g_getR O dX8_say_91 fx_RX8_14 h0 ?_
        obtain ⟨q19, hq19, hf⟩ := k_obd hN7 hf
        refine g_callV (rest := []) O dX8_say_94 (ct_X0_spell hZ h1 (hp12 _ rfl) (kf_8_0 h0) hq19) vx_RX8_62 h1 rfl rfl (by decide) (Nat.le_of_ble_eq_true rfl) (fun hp20 => ?_)
        change G Z C q19 97 [(7, .ref (za Z w13)), (6, .int a7.1), (5, .ref (za Z w6)), (0, .ref (za Z i0)), (1, .ref (za Z i1)), (2, .ref (za Z i2)), (3, .int p3), (4, .int p4)] []
        refine g_aload_n O dX8_say_97 3 rfl rfl ?_
        obtain ⟨q21, hq21, hf⟩ := k_obd hN7 hf
        refine g_callV (rest := []) O dX8_say_98 (ct_X8_addSpelled hZ h0 hq21) vx_RX8_66 h0 rfl rfl (by decide) (Nat.le_of_ble_eq_true rfl) (fun hp22 => ?_)
        change G Z C q21 101 [(7, .ref (za Z w13)), (6, .int a7.1), (5, .ref (za Z w6)), (0, .ref (za Z i0)), (1, .ref (za Z i1)), (2, .ref (za Z i2)), (3, .int p3), (4, .int p4)] []
        refine g_iinc O dX8_say_101 1 rfl (by decide) (1) (by decide) (fun y => [(6, .int y), (7, .ref (za Z w13)), (5, .ref (za Z w6)), (0, .ref (za Z i0)), (1, .ref (za Z i1)), (2, .ref (za Z i2)), (3, .int p3), (4, .int p4)]) (fun _ => rfl) hf (fun x23 hf => ?_)
        refine g_goto 32 O dX8_say_104 (by decide) ?_
        refine g_sub [0, 2, 3, 4, 5, 6, 7] rfl ?_
        exact hI7 _ hf

set_option maxHeartbeats 4000000 in
set_option maxRecDepth 100000 in
theorem ct_X8_lengthOf {Z : ZT} (hZ : ZOk Z) {σ : Mem} {i0 : Nat} {p1 : Int32} (h0 : kn i0 = 8) {r : Int32} (hf : fX8_lengthOf σ i0 p1 = some r) : Ct Z yX8_lengthOf cX8_lengthOf 2 (some .int) 1 21 [.ref (za Z i0), .int p1] σ (some (.int r)) True σ := by
  refine ct_i hZ (by decide +kernel) (Nat.le_of_ble_eq_true rfl) hf (fun C K O hN hR hf => ?_)
  have O : Ok Z C RX8 cX8_lengthOf 2 1 21 := O
  change G Z C σ 0 [(0, .ref (za Z i0)), (1, .int p1)] []
  unfold fX8_lengthOf at hf
  refine g_iload_n O dX8_lengthOf_0 1 rfl rfl ?_
  refine g_aload_n O dX8_lengthOf_1 0 rfl rfl ?_
  refine g_getI O dX8_lengthOf_2 fx_RX8_30 h0 ?_
  obtain ⟨q1, hq1, hf⟩ := k_obd hN hf
  refine g_callS (rest := []) O dX8_lengthOf_5 (ct_X11_isBelow hZ  hq1) sx_RX8_69 rfl rfl (by decide) (Nat.le_of_ble_eq_true rfl) (fun hp2 => ?_)
  change G Z C σ 8 [(0, .ref (za Z i0)), (1, .int p1)] [.int q1]
  refine g_if_eq 26 O dX8_lengthOf_8 (by decide) hf (fun c3 hf => ?_) (fun c3 hf => ?_)
  · refine g_iconst O dX8_lengthOf_26 (-1 : Int32) (by decide) ?_
    exact hR _ hf _ _ dX8_lengthOf_27
  · refine g_iload_n O dX8_lengthOf_11 1 rfl rfl ?_
    refine g_bipush O dX8_lengthOf_12 (6 : Int32) (by decide) ?_
    refine g_icmp_ge 26 O dX8_lengthOf_14 (by decide) hf (fun c4 hf => ?_) (fun c4 hf => ?_)
    · refine g_iconst O dX8_lengthOf_26 (-1 : Int32) (by decide) ?_
      exact hR _ hf _ _ dX8_lengthOf_27
    · refine g_aload_n O dX8_lengthOf_17 0 rfl rfl ?_
      refine g_getR O dX8_lengthOf_18 fx_RX8_23 h0 ?_
      refine g_iload_n O dX8_lengthOf_21 1 rfl rfl ?_
      refine g_iald O hN dX8_lengthOf_22 (kf_8_2 h0) hf (fun hf => ?_)
      refine g_goto 27 O dX8_lengthOf_23 (by decide) ?_
      exact hR _ hf _ _ dX8_lengthOf_27

set_option maxHeartbeats 4000000 in
set_option maxRecDepth 100000 in
theorem ct_X9_begin {Z : ZT} (hZ : ZOk Z) {σ : Mem} {i0 : Nat} {p1 : Int32} {p2 : Int32} (h0 : kn i0 = 9) {r : Mem} (hf : fX9_begin σ i0 p1 p2 = some r) : Ct Z yX9_begin cX9_begin 3 none 1 23 [.ref (za Z i0), .int p1, .int p2] σ none True r := by
  refine ct_v hZ (by decide +kernel) (Nat.le_of_ble_eq_true rfl) hf (fun C K O hN hR hf => ?_)
  have O : Ok Z C RX9 cX9_begin 3 1 23 := O
  change G Z C σ 0 [(0, .ref (za Z i0)), (1, .int p1), (2, .int p2)] []
  unfold fX9_begin at hf
  refine g_aload_n O dX9_begin_0 0 rfl rfl ?_
  refine g_iload_n O dX9_begin_1 1 rfl rfl ?_
  refine g_putI O dX9_begin_2 fp_RX9_9 h0 hf (fun m1 hf => ?_)
  refine g_aload_n O dX9_begin_5 0 rfl rfl ?_
  refine g_iload_n O dX9_begin_6 2 rfl rfl ?_
  refine g_putI O dX9_begin_7 fp_RX9_19 h0 hf (fun m2 hf => ?_)
  refine g_aload_n O dX9_begin_10 0 rfl rfl ?_
  refine g_getR O dX9_begin_11 fx_RX9_15 h0 ?_
  refine g_iconst O dX9_begin_14 (-1 : Int32) (by decide) ?_
  obtain ⟨q3, hq3, hf⟩ := k_obd hN hf
  refine g_callS (rest := []) O dX9_begin_15 (ct_J7_fill_53178 hZ (kf_9_2 h0) hq3) sx_RX9_22 rfl rfl (by decide) (Nat.le_of_ble_eq_true rfl) (fun hp4 => ?_)
  change G Z C q3 18 [(0, .ref (za Z i0)), (1, .int p1), (2, .int p2)] []
  exact hR _ hf _ _ dX9_begin_18

set_option maxHeartbeats 4000000 in
set_option maxRecDepth 100000 in
theorem ct_X9_become {Z : ZT} (hZ : ZOk Z) {σ : Mem} {i0 : Nat} {i1 : Nat} (h0 : kn i0 = 9) (h1 : kn i1 = 9) {r : Mem} (hf : fX9_become σ i0 i1 = some r) : Ct Z yX9_become cX9_become 2 none 1 40 [.ref (za Z i0), .ref (za Z i1)] σ none True r := by
  refine ct_v hZ (by decide +kernel) (Nat.le_of_ble_eq_true rfl) hf (fun C K O hN hR hf => ?_)
  have O : Ok Z C RX9 cX9_become 2 1 40 := O
  change G Z C σ 0 [(0, .ref (za Z i0)), (1, .ref (za Z i1))] []
  unfold fX9_become at hf
  refine g_aload_n O dX9_become_0 0 rfl rfl ?_
  refine g_aload_n O dX9_become_1 1 rfl rfl ?_
  refine g_getI O dX9_become_2 fx_RX9_9 h1 ?_
  refine g_putI O dX9_become_5 fp_RX9_9 h0 hf (fun m1 hf => ?_)
  refine g_aload_n O dX9_become_8 0 rfl rfl ?_
  refine g_aload_n O dX9_become_9 1 rfl rfl ?_
  refine g_getI O dX9_become_10 fx_RX9_19 h1 ?_
  refine g_putI O dX9_become_13 fp_RX9_19 h0 hf (fun m2 hf => ?_)
  refine g_aload_n O dX9_become_16 1 rfl rfl ?_
  refine g_getR O dX9_become_17 fx_RX9_15 h1 ?_
  refine g_iconst O dX9_become_20 (0 : Int32) (by decide) ?_
  refine g_aload_n O dX9_become_21 0 rfl rfl ?_
  refine g_getR O dX9_become_22 fx_RX9_15 h0 ?_
  refine g_iconst O dX9_become_25 (0 : Int32) (by decide) ?_
  refine g_bipush O dX9_become_26 (20 : Int32) (by decide) ?_
  refine g_copy O hN dX9_become_28 lm_RX9_28 mm_copy.1 mm_copy.2.1 mm_copy.2.2 (kf_9_2 h1) (kf_9_2 h0) (by decide) (by decide) (Nat.le_of_ble_eq_true rfl) hf (fun m3 hf => ?_)
  exact hR _ hf _ _ dX9_become_31

set_option maxHeartbeats 4000000 in
set_option maxRecDepth 100000 in
theorem ct_X9_isMissing {Z : ZT} (hZ : ZOk Z) {σ : Mem} {i0 : Nat} (h0 : kn i0 = 9) {r : Int32} (hf : fX9_isMissing σ i0 = some r) : Ct Z yX9_isMissing cX9_isMissing 1 (some .boolean) 0 0 [.ref (za Z i0)] σ (some (.int r)) (r = 0 ∨ r = 1) σ := by
  refine ct_z hZ (by decide +kernel) (Nat.le_of_ble_eq_true rfl) hf (fun C K O hN hR hf => ?_)
  have O : Ok Z C RX9 cX9_isMissing 1 0 0 := O
  change G Z C σ 0 [(0, .ref (za Z i0))] []
  unfold fX9_isMissing at hf
  refine g_aload_n O dX9_isMissing_0 0 rfl rfl ?_
  refine g_getI O dX9_isMissing_1 fx_RX9_9 h0 ?_
  refine g_iconst O dX9_isMissing_4 (-1 : Int32) (by decide) ?_
  refine g_icmp_ne 12 O dX9_isMissing_5 (by decide) hf (fun c1 hf => ?_) (fun c1 hf => ?_)
  · refine g_iconst O dX9_isMissing_8 (1 : Int32) (by decide) ?_
    refine g_goto 13 O dX9_isMissing_9 (by decide) ?_
    exact hR _ hf (Or.inr rfl) _ _ dX9_isMissing_13
  · refine g_iconst O dX9_isMissing_12 (0 : Int32) (by decide) ?_
    exact hR _ hf (Or.inl rfl) _ _ dX9_isMissing_13

set_option maxHeartbeats 4000000 in
set_option maxRecDepth 100000 in
theorem ct_X9_has {Z : ZT} (hZ : ZOk Z) {σ : Mem} {i0 : Nat} {p1 : Int32} (h0 : kn i0 = 9) {r : Int32} (hf : fX9_has σ i0 p1 = some r) : Ct Z yX9_has cX9_has 2 (some .boolean) 0 0 [.ref (za Z i0), .int p1] σ (some (.int r)) (r = 0 ∨ r = 1) σ := by
  refine ct_z hZ (by decide +kernel) (Nat.le_of_ble_eq_true rfl) hf (fun C K O hN hR hf => ?_)
  have O : Ok Z C RX9 cX9_has 2 0 0 := O
  change G Z C σ 0 [(0, .ref (za Z i0)), (1, .int p1)] []
  unfold fX9_has at hf
  refine g_iload_n O dX9_has_0 1 rfl rfl ?_
  refine g_if_lt 22 O dX9_has_1 (by decide) hf (fun c1 hf => ?_) (fun c1 hf => ?_)
  · refine g_iconst O dX9_has_22 (0 : Int32) (by decide) ?_
    exact hR _ hf (Or.inl rfl) _ _ dX9_has_23
  · refine g_iload_n O dX9_has_4 1 rfl rfl ?_
    refine g_aload_n O dX9_has_5 0 rfl rfl ?_
    refine g_getI O dX9_has_6 fx_RX9_19 h0 ?_
    refine g_icmp_ge 22 O dX9_has_9 (by decide) hf (fun c2 hf => ?_) (fun c2 hf => ?_)
    · refine g_iconst O dX9_has_22 (0 : Int32) (by decide) ?_
      exact hR _ hf (Or.inl rfl) _ _ dX9_has_23
    · refine g_iload_n O dX9_has_12 1 rfl rfl ?_
      refine g_bipush O dX9_has_13 (20 : Int32) (by decide) ?_
      refine g_icmp_ge 22 O dX9_has_15 (by decide) hf (fun c3 hf => ?_) (fun c3 hf => ?_)
      · refine g_iconst O dX9_has_22 (0 : Int32) (by decide) ?_
        exact hR _ hf (Or.inl rfl) _ _ dX9_has_23
      · refine g_iconst O dX9_has_18 (1 : Int32) (by decide) ?_
        refine g_goto 23 O dX9_has_19 (by decide) ?_
        exact hR _ hf (Or.inr rfl) _ _ dX9_has_23

set_option maxHeartbeats 4000000 in
set_option maxRecDepth 100000 in
theorem ct_X9_wordAt {Z : ZT} (hZ : ZOk Z) {σ : Mem} {i0 : Nat} {p1 : Int32} (h0 : kn i0 = 9) {r : Int32} (hf : fX9_wordAt σ i0 p1 = some r) : Ct Z yX9_wordAt cX9_wordAt 2 (some .int) 1 21 [.ref (za Z i0), .int p1] σ (some (.int r)) True σ := by
  refine ct_i hZ (by decide +kernel) (Nat.le_of_ble_eq_true rfl) hf (fun C K O hN hR hf => ?_)
  have O : Ok Z C RX9 cX9_wordAt 2 1 21 := O
  change G Z C σ 0 [(0, .ref (za Z i0)), (1, .int p1)] []
  unfold fX9_wordAt at hf
  refine g_aload_n O dX9_wordAt_0 0 rfl rfl ?_
  refine g_iload_n O dX9_wordAt_1 1 rfl rfl ?_
  obtain ⟨q1, hq1, hf⟩ := k_obd hN hf
  refine g_callV (rest := []) O dX9_wordAt_2 (ct_X9_has hZ h0 hq1) vx_RX9_34 h0 rfl rfl (by decide) (Nat.le_of_ble_eq_true rfl) (fun hp2 => ?_)
  change G Z C σ 5 [(0, .ref (za Z i0)), (1, .int p1)] [.int q1]
  refine g_if_eq 17 O dX9_wordAt_5 (by decide) hf (fun c3 hf => ?_) (fun c3 hf => ?_)
  · refine g_iconst O dX9_wordAt_17 (-1 : Int32) (by decide) ?_
    exact hR _ hf _ _ dX9_wordAt_18
  · refine g_aload_n O dX9_wordAt_8 0 rfl rfl ?_
    refine g_getR O dX9_wordAt_9 fx_RX9_15 h0 ?_
    refine g_iload_n O dX9_wordAt_12 1 rfl rfl ?_
    refine g_iald O hN dX9_wordAt_13 (kf_9_2 h0) hf (fun hf => ?_)
    refine g_goto 18 O dX9_wordAt_14 (by decide) ?_
    exact hR _ hf _ _ dX9_wordAt_18

