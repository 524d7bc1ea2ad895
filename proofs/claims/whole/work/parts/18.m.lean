set_option maxHeartbeats 4000000 in
set_option maxRecDepth 100000 in
theorem ct_Jxf58ca_floatToIntBits_5c35a {Z : ZT} (hZ : ZOk Z) {σ : Mem} {p0 : UInt32}  {r : Int32} (hf : fJxf58ca_floatToIntBits_5c35a σ p0 = some r) : Ct Z yJxf58ca_floatToIntBits_5c35a cJxf58ca_floatToIntBits_5c35a 1 (some .int) 1 23 [.float p0] σ (some (.int r)) True σ := by
  refine ct_i hZ (by decide +kernel) (Nat.le_of_ble_eq_true rfl) hf (fun C K O hN hR hf => ?_)
  have O : Ok Z C RJxf58ca cJxf58ca_floatToIntBits_5c35a 1 1 23 := O
  change G Z C σ 0 [(0, .float p0)] []
  unfold fJxf58ca_floatToIntBits_5c35a at hf
  refine g_fload_n O dJxf58ca_floatToIntBits_5c35a_0 0 rfl rfl ?_
  obtain ⟨q1, hq1, hf⟩ := k_obd hN hf
  refine g_callS (rest := []) O dJxf58ca_floatToIntBits_5c35a_1 (ct_Jxf58ca_isNaN_12338 hZ  hq1) sx_RJxf58ca_59 rfl rfl (by decide) (Nat.le_of_ble_eq_true rfl) (fun hp2 => ?_)
  change G Z C σ 4 [(0, .float p0)] [.int q1]
  refine g_if_ne 12 O dJxf58ca_floatToIntBits_5c35a_4 (by decide) hf (fun c3 hf => ?_) (fun c3 hf => ?_)
  · refine g_fload_n O dJxf58ca_floatToIntBits_5c35a_7 0 rfl rfl ?_
    refine g_rawbits O dJxf58ca_floatToIntBits_5c35a_8 lm_RJxf58ca_74 mm_raw.1 mm_raw.2.1 mm_raw.2.2 (by decide) (Nat.le_of_ble_eq_true rfl) ?_
    exact hR _ hf _ _ dJxf58ca_floatToIntBits_5c35a_11
  · refine g_ldc O dJxf58ca_floatToIntBits_5c35a_12 lc_RJxf58ca_77 ?_
    exact hR _ hf _ _ dJxf58ca_floatToIntBits_5c35a_14

set_option maxHeartbeats 4000000 in
set_option maxRecDepth 100000 in
theorem ct_X12_spoken {Z : ZT} (hZ : ZOk Z) {σ : Mem} {i0 : Nat} {p1 : Int32} (h0 : kn i0 = 12) {r : (Int32 × Mem)} (hf : fX12_spoken σ i0 p1 = some r) : Ct Z yX12_spoken cX12_spoken 5 (some .int) 8 190 [.ref (za Z i0), .int p1] σ (some (.int r.1)) True r.2 := by
  refine ct_im hZ (by decide +kernel) (Nat.le_of_ble_eq_true rfl) hf (fun C K O hN hR hf => ?_)
  have O : Ok Z C RX12 cX12_spoken 5 8 190 := O
  change G Z C σ 0 [(0, .ref (za Z i0)), (1, .int p1)] []
  unfold fX12_spoken at hf
  refine g_iload_n O dX12_spoken_0 1 rfl rfl ?_
  refine g_iconst O dX12_spoken_1 (1 : Int32) (by decide) ?_
  refine g_bipush O dX12_spoken_2 (99 : Int32) (by decide) ?_
  obtain ⟨q1, hq1, hf⟩ := k_obd hN hf
  refine g_callS (rest := []) O dX12_spoken_4 (ct_X12_isIn hZ  hq1) sx_RX12_64 rfl rfl (by decide) (Nat.le_of_ble_eq_true rfl) (fun hp2 => ?_)
  change G Z C σ 7 [(0, .ref (za Z i0)), (1, .int p1)] [.int q1]
  refine g_if_ne 13 O dX12_spoken_7 (by decide) hf (fun c3 hf => ?_) (fun c3 hf => ?_)
  · refine g_bipush O dX12_spoken_10 (-2 : Int32) (by decide) ?_
    exact hR _ _ hf _ _ dX12_spoken_12
  · refine g_aload_n O dX12_spoken_13 0 rfl rfl ?_
    obtain ⟨q4, hq4, hf⟩ := k_obd hN hf
    refine g_callV (rest := []) O dX12_spoken_14 (ct_X12_saysDesk_ hZ h0 hq4) vx_RX12_192 h0 rfl rfl (by decide) (Nat.le_of_ble_eq_true rfl) (fun hp5 => ?_)
    change G Z C q4 17 [(0, .ref (za Z i0)), (1, .int p1)] []
    refine g_fconst0 O dX12_spoken_17 ?_
    refine g_fstore_nP O dX12_spoken_18 rfl (by decide) [(2, .float FP.fconst0), (0, .ref (za Z i0)), (1, .int p1)] rfl ?_
    refine g_iconst O dX12_spoken_19 (0 : Int32) (by decide) ?_
    refine g_istore_nP O dX12_spoken_20 rfl (by decide) [(3, .int (0 : Int32)), (2, .float FP.fconst0), (0, .ref (za Z i0)), (1, .int p1)] rfl ?_
    refine g_lp hN (fun (a6 : Int32 × UInt32) => G Z C q4 21 [(3, .int a6.1), (2, .float a6.2), (0, .ref (za Z i0)), (1, .int p1)] []) hf (fun a6 _ hN6 hI6 hX6 hf => ?_)
    unfold sX12_spoken_21 at hf
    refine g_iload_n O dX12_spoken_21 0 rfl rfl ?_
    refine g_aload_n O dX12_spoken_22 2 rfl rfl ?_
    refine g_getI O dX12_spoken_23 fx_RX12_166 h0 ?_
    refine g_icmp_ge 119 O dX12_spoken_26 (by decide) hf (fun c7 hf => ?_) (fun c7 hf => ?_)
    · have hf := hX6 _ hf
      refine g_fload_n O dX12_spoken_119 1 rfl rfl ?_
      obtain ⟨q8, hq8, hf⟩ := k_obd hN hf
      refine g_callS (rest := []) O dX12_spoken_120 (ct_Jxf58ca_floatToIntBits_5c35a hZ  hq8) sx_RX12_198 rfl rfl (by decide) (Nat.le_of_ble_eq_true rfl) (fun hp9 => ?_)
      change G Z C q4 123 [(3, .int a6.1), (2, .float a6.2), (0, .ref (za Z i0)), (1, .int p1)] [.int q8]
      exact hR _ _ hf _ _ dX12_spoken_123
    · refine g_aload_n O dX12_spoken_29 2 rfl rfl ?_
      refine g_getR O dX12_spoken_30 fx_RX12_25 h0 ?_
      refine g_iload_n O dX12_spoken_33 0 rfl rfl ?_
      refine g_iald O hN6 dX12_spoken_34 (kf_12_10 h0) hf (fun hf => ?_)
      obtain ⟨q10, hq10, hf⟩ := k_obd hN6 hf
      refine g_callS (rest := []) O dX12_spoken_35 (ct_X12_isVowel hZ  hq10) sx_RX12_87 rfl rfl (by decide) (Nat.le_of_ble_eq_true rfl) (fun hp11 => ?_)
      change G Z C q4 38 [(3, .int a6.1), (2, .float a6.2), (0, .ref (za Z i0)), (1, .int p1)] [.int q10]
      refine g_jn (fun (y12 : UInt32) => G Z C q4 64 [(3, .int a6.1), (2, .float a6.2), (0, .ref (za Z i0)), (1, .int p1)] [.float y12]) hf (fun y12 hf => ?_) (fun k12 hk12 hf => ?_)
      · refine g_fstoreP O dX12_spoken_64 (by decide) [(4, .float y12), (3, .int a6.1), (2, .float a6.2), (0, .ref (za Z i0)), (1, .int p1)] rfl ?_
        refine g_iload_n O dX12_spoken_66 1 rfl rfl ?_
        refine g_if_le 105 O dX12_spoken_67 (by decide) hf (fun c13 hf => ?_) (fun c13 hf => ?_)
        · refine g_fload_n O dX12_spoken_105 2 rfl rfl ?_
          refine g_fload O dX12_spoken_106 0 rfl ?_
          refine g_iload_n O dX12_spoken_108 4 rfl rfl ?_
          refine g_i2f O dX12_spoken_109 ?_
          refine g_fdiv O hN6 dX12_spoken_110 hf (fun hf => ?_)
          refine g_fadd O hN6 dX12_spoken_111 hf (fun hf => ?_)
          refine g_fstore_n O dX12_spoken_112 rfl (by decide) (fun y => [(2, .float y), (4, .float y12), (3, .int a6.1), (0, .ref (za Z i0)), (1, .int p1)]) (fun _ => rfl) hf (fun x14 hf => ?_)
          refine g_iinc O dX12_spoken_113 2 rfl (by decide) (1) (by decide) (fun y => [(3, .int y), (2, .float x14), (4, .float y12), (0, .ref (za Z i0)), (1, .int p1)]) (fun _ => rfl) hf (fun x15 hf => ?_)
          refine g_goto 21 O dX12_spoken_116 (by decide) ?_
          refine g_sub [0, 1, 3, 4] rfl ?_
          exact hI6 _ hf
        · refine g_aload_n O dX12_spoken_70 3 rfl rfl ?_
          refine g_getR O dX12_spoken_71 fx_RX12_25 h0 ?_
          refine g_iload_n O dX12_spoken_74 1 rfl rfl ?_
          refine g_iald O hN6 dX12_spoken_75 (kf_12_10 h0) hf (fun hf => ?_)
          refine g_bipush O dX12_spoken_76 (32 : Int32) (by decide) ?_
          refine g_icmp_eq 105 O dX12_spoken_78 (by decide) hf (fun c16 hf => ?_) (fun c16 hf => ?_)
          · refine g_fload_n O dX12_spoken_105 2 rfl rfl ?_
            refine g_fload O dX12_spoken_106 0 rfl ?_
            refine g_iload_n O dX12_spoken_108 4 rfl rfl ?_
            refine g_i2f O dX12_spoken_109 ?_
            refine g_fdiv O hN6 dX12_spoken_110 hf (fun hf => ?_)
            refine g_fadd O hN6 dX12_spoken_111 hf (fun hf => ?_)
            refine g_fstore_n O dX12_spoken_112 rfl (by decide) (fun y => [(2, .float y), (4, .float y12), (3, .int a6.1), (0, .ref (za Z i0)), (1, .int p1)]) (fun _ => rfl) hf (fun x17 hf => ?_)
            refine g_iinc O dX12_spoken_113 2 rfl (by decide) (1) (by decide) (fun y => [(3, .int y), (2, .float x17), (4, .float y12), (0, .ref (za Z i0)), (1, .int p1)]) (fun _ => rfl) hf (fun x18 hf => ?_)
            refine g_goto 21 O dX12_spoken_116 (by decide) ?_
            refine g_sub [0, 1, 3, 4] rfl ?_
            exact hI6 _ hf
          · refine g_aload_n O dX12_spoken_81 3 rfl rfl ?_
            refine g_getR O dX12_spoken_82 fx_RX12_25 h0 ?_
            refine g_iload_n O dX12_spoken_85 1 rfl rfl ?_
            refine g_iald O hN6 dX12_spoken_86 (kf_12_10 h0) hf (fun hf => ?_)
            refine g_aload_n O dX12_spoken_87 3 rfl rfl ?_
            refine g_getR O dX12_spoken_88 fx_RX12_25 h0 ?_
            refine g_iload_n O dX12_spoken_91 1 rfl rfl ?_
            refine g_iconst O dX12_spoken_92 (1 : Int32) (by decide) ?_
            refine g_isub O dX12_spoken_93 ?_
            refine g_iald O hN6 dX12_spoken_94 (kf_12_10 h0) hf (fun hf => ?_)
            refine g_icmp_ne 105 O dX12_spoken_95 (by decide) hf (fun c19 hf => ?_) (fun c19 hf => ?_)
            · refine g_fload O dX12_spoken_98 0 rfl ?_
              refine g_ldcf O dX12_spoken_100 lc_RX12_197 ?_
              refine g_fmul O hN6 dX12_spoken_102 hf (fun hf => ?_)
              refine g_fstore O dX12_spoken_103 (by decide) (fun y => [(4, .float y), (3, .int a6.1), (2, .float a6.2), (0, .ref (za Z i0)), (1, .int p1)]) (fun _ => rfl) hf (fun x20 hf => ?_)
              refine g_fload_n O dX12_spoken_105 2 rfl rfl ?_
              refine g_fload O dX12_spoken_106 0 rfl ?_
              refine g_iload_n O dX12_spoken_108 4 rfl rfl ?_
              refine g_i2f O dX12_spoken_109 ?_
              refine g_fdiv O hN6 dX12_spoken_110 hf (fun hf => ?_)
              refine g_fadd O hN6 dX12_spoken_111 hf (fun hf => ?_)
              refine g_fstore_n O dX12_spoken_112 rfl (by decide) (fun y => [(2, .float y), (4, .float x20), (3, .int a6.1), (0, .ref (za Z i0)), (1, .int p1)]) (fun _ => rfl) hf (fun x21 hf => ?_)
              refine g_iinc O dX12_spoken_113 2 rfl (by decide) (1) (by decide) (fun y => [(3, .int y), (2, .float x21), (4, .float x20), (0, .ref (za Z i0)), (1, .int p1)]) (fun _ => rfl) hf (fun x22 hf => ?_)
              refine g_goto 21 O dX12_spoken_116 (by decide) ?_
              refine g_sub [0, 1, 3, 4] rfl ?_
              exact hI6 _ hf
            · refine g_fload_n O dX12_spoken_105 2 rfl rfl ?_
              refine g_fload O dX12_spoken_106 0 rfl ?_
              refine g_iload_n O dX12_spoken_108 4 rfl rfl ?_
              refine g_i2f O dX12_spoken_109 ?_
              refine g_fdiv O hN6 dX12_spoken_110 hf (fun hf => ?_)
              refine g_fadd O hN6 dX12_spoken_111 hf (fun hf => ?_)
              refine g_fstore_n O dX12_spoken_112 rfl (by decide) (fun y => [(2, .float y), (4, .float y12), (3, .int a6.1), (0, .ref (za Z i0)), (1, .int p1)]) (fun _ => rfl) hf (fun x23 hf => ?_)
              refine g_iinc O dX12_spoken_113 2 rfl (by decide) (1) (by decide) (fun y => [(3, .int y), (2, .float x23), (4, .float y12), (0, .ref (za Z i0)), (1, .int p1)]) (fun _ => rfl) hf (fun x24 hf => ?_)
              refine g_goto 21 O dX12_spoken_116 (by decide) ?_
              refine g_sub [0, 1, 3, 4] rfl ?_
              exact hI6 _ hf
      · skip
        refine g_if_eq 46 O dX12_spoken_38 (by decide) hf (fun c25 hf => ?_) (fun c25 hf => ?_)
        · refine g_aload_n O dX12_spoken_46 2 rfl rfl ?_
          refine g_getR O dX12_spoken_47 fx_RX12_25 h0 ?_
          refine g_iload_n O dX12_spoken_50 0 rfl rfl ?_
          refine g_iald O hN6 dX12_spoken_51 (kf_12_10 h0) hf (fun hf => ?_)
          refine g_bipush O dX12_spoken_52 (32 : Int32) (by decide) ?_
          refine g_icmp_ne 62 O dX12_spoken_54 (by decide) hf (fun c26 hf => ?_) (fun c26 hf => ?_)
          · refine g_ldcf O dX12_spoken_57 lc_RX12_195 ?_
            refine g_goto 64 O dX12_spoken_59 (by decide) ?_
            exact hk12 _ hf
          · refine g_ldcf O dX12_spoken_62 lc_RX12_196 ?_
            exact hk12 _ hf
        · refine g_ldcf O dX12_spoken_41 lc_RX12_194 ?_
          refine g_goto 64 O dX12_spoken_43 (by decide) ?_
          exact hk12 _ hf

set_option maxHeartbeats 4000000 in
set_option maxRecDepth 100000 in
theorem ct_X12_text {Z : ZT} (hZ : ZOk Z) {σ : Mem} {i0 : Nat} (h0 : kn i0 = 12) {r : (Int32 × Mem)} (hf : fX12_text σ i0 = some r) : Ct Z yX12_text cX12_text 4 (some .int) 1 22 [.ref (za Z i0)] σ (some (.int r.1)) True r.2 := by
  refine ct_im hZ (by decide +kernel) (Nat.le_of_ble_eq_true rfl) hf (fun C K O hN hR hf => ?_)
  have O : Ok Z C RX12 cX12_text 4 1 22 := O
  change G Z C σ 0 [(0, .ref (za Z i0))] []
  unfold fX12_text at hf
  refine g_aload_n O dX12_text_0 0 rfl rfl ?_
  refine g_getI O dX12_text_1 fx_RX12_72 h0 ?_
  refine g_istore_n O dX12_text_4 rfl (by decide) (fun y => [(1, .int y), (0, .ref (za Z i0))]) (fun _ => rfl) hf (fun x1 hf => ?_)
  refine g_iconst O dX12_text_5 (1 : Int32) (by decide) ?_
  refine g_istore_nP O dX12_text_6 rfl (by decide) [(2, .int (1 : Int32)), (1, .int x1), (0, .ref (za Z i0))] rfl ?_
  refine g_aload_n O dX12_text_7 2 rfl rfl ?_
  refine g_iconst O dX12_text_8 (0 : Int32) (by decide) ?_
  refine g_putI O dX12_text_9 fp_RX12_72 h0 hf (fun m2 hf => ?_)
  refine g_iconst O dX12_text_12 (0 : Int32) (by decide) ?_
  refine g_istore_nP O dX12_text_13 rfl (by decide) [(3, .int (0 : Int32)), (2, .int (1 : Int32)), (1, .int x1), (0, .ref (za Z i0))] rfl ?_
  refine g_lp hN (fun (a3 : Int32 × Int32) => G Z C m2 14 [(3, .int a3.1), (2, .int a3.2), (1, .int x1), (0, .ref (za Z i0))] []) hf (fun a3 _ hN3 hI3 hX3 hf => ?_)
  unfold sX12_text_14 at hf
  refine g_iload_n O dX12_text_14 0 rfl rfl ?_
  refine g_iload_n O dX12_text_15 2 rfl rfl ?_
  refine g_icmp_ge 85 O dX12_text_16 (by decide) hf (fun c4 hf => ?_) (fun c4 hf => ?_)
  · have hf := hX3 _ hf
    refine g_iload_n O dX12_text_85 2 rfl rfl ?_
    refine g_if_ne 92 O dX12_text_86 (by decide) hf (fun c5 hf => ?_) (fun c5 hf => ?_)
    · refine g_bipush O dX12_text_89 (-3 : Int32) (by decide) ?_
      exact hR _ _ hf _ _ dX12_text_91
    · refine g_aload_n O dX12_text_92 3 rfl rfl ?_
      refine g_getR O dX12_text_93 fx_RX12_9 h0 ?_
      refine g_bipush O dX12_text_96 (13 : Int32) (by decide) ?_
      refine g_iload_n O dX12_text_98 2 rfl rfl ?_
      refine g_iast O hN dX12_text_99 (kf_12_0 h0) hf (fun m6 hf => ?_)
      refine g_iconst O dX12_text_100 (0 : Int32) (by decide) ?_
      refine g_istore_nP O dX12_text_101 rfl (by decide) [(3, .int (0 : Int32)), (2, .int a3.2), (1, .int x1), (0, .ref (za Z i0))] rfl ?_
      refine g_lp hN (fun (a7 : Int32 × Mem) => G Z C a7.2 102 [(3, .int a7.1), (2, .int a3.2), (1, .int x1), (0, .ref (za Z i0))] []) hf (fun a7 _ hN7 hI7 hX7 hf => ?_)
      unfold sX12_text_102 at hf
      refine g_iload_n O dX12_text_102 0 rfl rfl ?_
      refine g_iload_n O dX12_text_103 2 rfl rfl ?_
      refine g_icmp_ge 129 O dX12_text_104 (by decide) hf (fun c8 hf => ?_) (fun c8 hf => ?_)
      · have hf := hX7 _ hf
        refine g_iload_n O dX12_text_129 1 rfl rfl ?_
        exact hR _ _ hf _ _ dX12_text_130
      · refine g_aload_n O dX12_text_107 3 rfl rfl ?_
        refine g_getR O dX12_text_108 fx_RX12_9 h0 ?_
        refine g_sipush O dX12_text_111 (467 : Int32) (by decide) ?_
        refine g_iload_n O dX12_text_114 0 rfl rfl ?_
        refine g_iadd O dX12_text_115 ?_
        refine g_aload_n O dX12_text_116 3 rfl rfl ?_
        refine g_getR O dX12_text_117 fx_RX12_16 h0 ?_
        refine g_iload_n O dX12_text_120 0 rfl rfl ?_
        refine g_iald O hN7 dX12_text_121 (kf_12_3 h0) hf (fun hf => ?_)
        refine g_iast O hN7 dX12_text_122 (kf_12_0 h0) hf (fun m9 hf => ?_)
        refine g_iinc O dX12_text_123 0 rfl (by decide) (1) (by decide) (fun y => [(3, .int y), (2, .int a3.2), (1, .int x1), (0, .ref (za Z i0))]) (fun _ => rfl) hf (fun x10 hf => ?_)
        refine g_goto 102 O dX12_text_126 (by decide) ?_
        exact hI7 _ hf
  · refine g_aload_n O dX12_text_19 3 rfl rfl ?_
    refine g_getR O dX12_text_20 fx_RX12_16 h0 ?_
    refine g_iload_n O dX12_text_23 0 rfl rfl ?_
    refine g_iald O hN3 dX12_text_24 (kf_12_3 h0) hf (fun hf => ?_)
    refine g_bipush O dX12_text_25 (32 : Int32) (by decide) ?_
    refine g_jn (fun (y11 : Unit) => G Z C m2 60 [(3, .int a3.1), (2, .int a3.2), (1, .int x1), (0, .ref (za Z i0))] []) hf (fun y11 hf => ?_) (fun k11 hk11 hf => ?_)
    · refine g_aload_n O dX12_text_60 3 rfl rfl ?_
      refine g_getR O dX12_text_61 fx_RX12_16 h0 ?_
      refine g_iload_n O dX12_text_64 0 rfl rfl ?_
      refine g_iald O hN3 dX12_text_65 (kf_12_3 h0) hf (fun hf => ?_)
      refine g_bipush O dX12_text_66 (97 : Int32) (by decide) ?_
      refine g_bipush O dX12_text_68 (122 : Int32) (by decide) ?_
      obtain ⟨q12, hq12, hf⟩ := k_obd hN3 hf
      refine g_callS (rest := []) O dX12_text_70 (ct_X12_isIn hZ  hq12) sx_RX12_64 rfl rfl (by decide) (Nat.le_of_ble_eq_true rfl) (fun hp13 => ?_)
      change G Z C m2 73 [(3, .int a3.1), (2, .int a3.2), (1, .int x1), (0, .ref (za Z i0))] [.int q12]
      refine g_if_ne 79 O dX12_text_73 (by decide) hf (fun c14 hf => ?_) (fun c14 hf => ?_)
      · have hf := hX3 _ hf
        refine g_bipush O dX12_text_76 (-3 : Int32) (by decide) ?_
        exact hR _ _ hf _ _ dX12_text_78
      · refine g_iinc O dX12_text_79 0 rfl (by decide) (1) (by decide) (fun y => [(3, .int y), (2, .int a3.2), (1, .int x1), (0, .ref (za Z i0))]) (fun _ => rfl) hf (fun x15 hf => ?_)
        refine g_goto 14 O dX12_text_82 (by decide) ?_
        exact hI3 _ hf
    · skip
      refine g_icmp_ne 60 O dX12_text_27 (by decide) hf (fun c16 hf => ?_) (fun c16 hf => ?_)
      · refine g_iload_n O dX12_text_30 0 rfl rfl ?_
        refine g_if_le 60 O dX12_text_31 (by decide) hf (fun c17 hf => ?_) (fun c17 hf => ?_)
        · exact hk11 _ hf
        · refine g_iload_n O dX12_text_34 0 rfl rfl ?_
          refine g_iload_n O dX12_text_35 2 rfl rfl ?_
          refine g_iconst O dX12_text_36 (1 : Int32) (by decide) ?_
          refine g_isub O dX12_text_37 ?_
          refine g_icmp_ge 60 O dX12_text_38 (by decide) hf (fun c18 hf => ?_) (fun c18 hf => ?_)
          · exact hk11 _ hf
          · refine g_aload_n O dX12_text_41 3 rfl rfl ?_
            refine g_getR O dX12_text_42 fx_RX12_16 h0 ?_
            refine g_iload_n O dX12_text_45 0 rfl rfl ?_
            refine g_iconst O dX12_text_46 (1 : Int32) (by decide) ?_
            refine g_isub O dX12_text_47 ?_
            refine g_iald O hN3 dX12_text_48 (kf_12_3 h0) hf (fun hf => ?_)
            refine g_bipush O dX12_text_49 (32 : Int32) (by decide) ?_
            refine g_icmp_eq 60 O dX12_text_51 (by decide) hf (fun c19 hf => ?_) (fun c19 hf => ?_)
            · exact hk11 _ hf
            · refine g_iinc O dX12_text_54 1 rfl (by decide) (1) (by decide) (fun y => [(2, .int y), (3, .int a3.1), (1, .int x1), (0, .ref (za Z i0))]) (fun _ => rfl) hf (fun x20 hf => ?_)
              refine g_goto 79 O dX12_text_57 (by decide) ?_
              refine g_iinc O dX12_text_79 1 rfl (by decide) (1) (by decide) (fun y => [(3, .int y), (2, .int x20), (1, .int x1), (0, .ref (za Z i0))]) (fun _ => rfl) hf (fun x21 hf => ?_)
              refine g_goto 14 O dX12_text_82 (by decide) ?_
              exact hI3 _ hf
      · exact hk11 _ hf

set_option maxHeartbeats 4000000 in
set_option maxRecDepth 100000 in
theorem ct_X12_takesText {Z : ZT} (hZ : ZOk Z) {σ : Mem} {i0 : Nat} (h0 : kn i0 = 12) {r : Mem} (hf : fX12_takesText σ i0 = some r) : Ct Z yX12_takesText cX12_takesText 2 none 0 0 [.ref (za Z i0)] σ none True r := by
  refine ct_v hZ (by decide +kernel) (Nat.le_of_ble_eq_true rfl) hf (fun C K O hN hR hf => ?_)
  have O : Ok Z C RX12 cX12_takesText 2 0 0 := O
  change G Z C σ 0 [(0, .ref (za Z i0))] []
  unfold fX12_takesText at hf
  refine g_aload_n O dX12_takesText_0 0 rfl rfl ?_
  refine g_aload_n O dX12_takesText_1 0 rfl rfl ?_
  refine g_getR O dX12_takesText_2 fx_RX12_9 h0 ?_
  refine g_bipush O dX12_takesText_5 (13 : Int32) (by decide) ?_
  refine g_iald O hN dX12_takesText_7 (kf_12_0 h0) hf (fun hf => ?_)
  refine g_putI O dX12_takesText_8 fp_RX12_166 h0 hf (fun m1 hf => ?_)
  refine g_iconst O dX12_takesText_11 (0 : Int32) (by decide) ?_
  refine g_istore_nP O dX12_takesText_12 rfl (by decide) [(1, .int (0 : Int32)), (0, .ref (za Z i0))] rfl ?_
  refine g_lp hN (fun (a2 : Int32 × Mem) => G Z C a2.2 13 [(1, .int a2.1), (0, .ref (za Z i0))] []) hf (fun a2 _ hN2 hI2 hX2 hf => ?_)
  unfold sX12_takesText_13 at hf
  refine g_iload_n O dX12_takesText_13 0 rfl rfl ?_
  refine g_aload_n O dX12_takesText_14 1 rfl rfl ?_
  refine g_getI O dX12_takesText_15 fx_RX12_166 h0 ?_
  refine g_icmp_ge 43 O dX12_takesText_18 (by decide) hf (fun c3 hf => ?_) (fun c3 hf => ?_)
  · have hf := hX2 _ hf
    exact hR _ hf _ _ dX12_takesText_43
  · refine g_aload_n O dX12_takesText_21 1 rfl rfl ?_
    refine g_getR O dX12_takesText_22 fx_RX12_25 h0 ?_
    refine g_iload_n O dX12_takesText_25 0 rfl rfl ?_
    refine g_aload_n O dX12_takesText_26 1 rfl rfl ?_
    refine g_getR O dX12_takesText_27 fx_RX12_9 h0 ?_
    refine g_sipush O dX12_takesText_30 (467 : Int32) (by decide) ?_
    refine g_iload_n O dX12_takesText_33 0 rfl rfl ?_
    refine g_iadd O dX12_takesText_34 ?_
    refine g_iald O hN2 dX12_takesText_35 (kf_12_0 h0) hf (fun hf => ?_)
    refine g_iast O hN2 dX12_takesText_36 (kf_12_10 h0) hf (fun m4 hf => ?_)
    refine g_iinc O dX12_takesText_37 0 rfl (by decide) (1) (by decide) (fun y => [(1, .int y), (0, .ref (za Z i0))]) (fun _ => rfl) hf (fun x5 hf => ?_)
    refine g_goto 13 O dX12_takesText_40 (by decide) ?_
    exact hI2 _ hf

set_option maxHeartbeats 4000000 in
set_option maxRecDepth 100000 in
theorem ct_X12_parts {Z : ZT} (hZ : ZOk Z) {σ : Mem} {i0 : Nat} (h0 : kn i0 = 12) {r : Mem} (hf : fX12_parts σ i0 = some r) : Ct Z yX12_parts cX12_parts 2 none 0 0 [.ref (za Z i0)] σ none True r := by
  refine ct_v hZ (by decide +kernel) (Nat.le_of_ble_eq_true rfl) hf (fun C K O hN hR hf => ?_)
  have O : Ok Z C RX12 cX12_parts 2 0 0 := O
  change G Z C σ 0 [(0, .ref (za Z i0))] []
  unfold fX12_parts at hf
  refine g_aload_n O dX12_parts_0 0 rfl rfl ?_
  refine g_iconst O dX12_parts_1 (0 : Int32) (by decide) ?_
  refine g_putI O dX12_parts_2 fp_RX12_204 h0 hf (fun m1 hf => ?_)
  refine g_aload_n O dX12_parts_5 0 rfl rfl ?_
  refine g_getI O dX12_parts_6 fx_RX12_166 h0 ?_
  refine g_if_ne 13 O dX12_parts_9 (by decide) hf (fun c2 hf => ?_) (fun c2 hf => ?_)
  · exact hR _ hf _ _ dX12_parts_12
  · refine g_aload_n O dX12_parts_13 0 rfl rfl ?_
    refine g_getR O dX12_parts_14 fx_RX12_28 h0 ?_
    refine g_iconst O dX12_parts_17 (0 : Int32) (by decide) ?_
    refine g_iconst O dX12_parts_18 (0 : Int32) (by decide) ?_
    refine g_iast O hN dX12_parts_19 (kf_12_11 h0) hf (fun m3 hf => ?_)
    refine g_iconst O dX12_parts_20 (0 : Int32) (by decide) ?_
    refine g_istore_nP O dX12_parts_21 rfl (by decide) [(1, .int (0 : Int32)), (0, .ref (za Z i0))] rfl ?_
    refine g_lp hN (fun (a4 : Int32 × Mem) => G Z C a4.2 22 [(1, .int a4.1), (0, .ref (za Z i0))] []) hf (fun a4 _ hN4 hI4 hX4 hf => ?_)
    unfold sX12_parts_22 at hf
    refine g_iload_n O dX12_parts_22 0 rfl rfl ?_
    refine g_aload_n O dX12_parts_23 1 rfl rfl ?_
    refine g_getI O dX12_parts_24 fx_RX12_166 h0 ?_
    refine g_icmp_ge 82 O dX12_parts_27 (by decide) hf (fun c5 hf => ?_) (fun c5 hf => ?_)
    · have hf := hX4 _ hf
      refine g_aload_n O dX12_parts_82 1 rfl rfl ?_
      refine g_getR O dX12_parts_83 fx_RX12_31 h0 ?_
      refine g_aload_n O dX12_parts_86 1 rfl rfl ?_
      refine g_getI O dX12_parts_87 fx_RX12_204 h0 ?_
      refine g_aload_n O dX12_parts_90 1 rfl rfl ?_
      refine g_getI O dX12_parts_91 fx_RX12_166 h0 ?_
      refine g_iast O hN dX12_parts_94 (kf_12_12 h0) hf (fun m6 hf => ?_)
      refine g_aload_n O dX12_parts_95 1 rfl rfl ?_
      refine g_dup O dX12_parts_96 rfl ?_
      refine g_getI O dX12_parts_97 fx_RX12_204 h0 ?_
      refine g_iconst O dX12_parts_100 (1 : Int32) (by decide) ?_
      refine g_iadd O dX12_parts_101 ?_
      refine g_putI O dX12_parts_102 fp_RX12_204 h0 hf (fun m7 hf => ?_)
      exact hR _ hf _ _ dX12_parts_105
    · refine g_aload_n O dX12_parts_30 1 rfl rfl ?_
      refine g_getR O dX12_parts_31 fx_RX12_25 h0 ?_
      refine g_iload_n O dX12_parts_34 0 rfl rfl ?_
      refine g_iald O hN4 dX12_parts_35 (kf_12_10 h0) hf (fun hf => ?_)
      refine g_bipush O dX12_parts_36 (32 : Int32) (by decide) ?_
      refine g_icmp_eq 44 O dX12_parts_38 (by decide) hf (fun c8 hf => ?_) (fun c8 hf => ?_)
      · refine g_aload_n O dX12_parts_44 1 rfl rfl ?_
        refine g_getR O dX12_parts_45 fx_RX12_31 h0 ?_
        refine g_aload_n O dX12_parts_48 1 rfl rfl ?_
        refine g_getI O dX12_parts_49 fx_RX12_204 h0 ?_
        refine g_iload_n O dX12_parts_52 0 rfl rfl ?_
        refine g_iast O hN4 dX12_parts_53 (kf_12_12 h0) hf (fun m9 hf => ?_)
        refine g_aload_n O dX12_parts_54 1 rfl rfl ?_
        refine g_dup O dX12_parts_55 rfl ?_
        refine g_getI O dX12_parts_56 fx_RX12_204 h0 ?_
        refine g_iconst O dX12_parts_59 (1 : Int32) (by decide) ?_
        refine g_iadd O dX12_parts_60 ?_
        refine g_putI O dX12_parts_61 fp_RX12_204 h0 hf (fun m10 hf => ?_)
        refine g_aload_n O dX12_parts_64 1 rfl rfl ?_
        refine g_getR O dX12_parts_65 fx_RX12_28 h0 ?_
        refine g_aload_n O dX12_parts_68 1 rfl rfl ?_
        refine g_getI O dX12_parts_69 fx_RX12_204 h0 ?_
        refine g_iload_n O dX12_parts_72 0 rfl rfl ?_
        refine g_iconst O dX12_parts_73 (1 : Int32) (by decide) ?_
        refine g_iadd O dX12_parts_74 ?_
        refine g_iast O hN4 dX12_parts_75 (kf_12_11 h0) hf (fun m11 hf => ?_)
        refine g_iinc O dX12_parts_76 0 rfl (by decide) (1) (by decide) (fun y => [(1, .int y), (0, .ref (za Z i0))]) (fun _ => rfl) hf (fun x12 hf => ?_)
        refine g_goto 22 O dX12_parts_79 (by decide) ?_
        exact hI4 _ hf
      · refine g_goto 76 O dX12_parts_41 (by decide) ?_
        refine g_iinc O dX12_parts_76 0 rfl (by decide) (1) (by decide) (fun y => [(1, .int y), (0, .ref (za Z i0))]) (fun _ => rfl) hf (fun x13 hf => ?_)
        refine g_goto 22 O dX12_parts_79 (by decide) ?_
        exact hI4 _ hf

set_option maxHeartbeats 4000000 in
set_option maxRecDepth 100000 in
theorem ct_X12_isLike {Z : ZT} (hZ : ZOk Z) {σ : Mem} {i0 : Nat} {p1 : Int32} (h0 : kn i0 = 12) {r : Int32} (hf : fX12_isLike σ i0 p1 = some r) : Ct Z yX12_isLike cX12_isLike 3 (some .boolean) 0 0 [.ref (za Z i0), .int p1] σ (some (.int r)) (r = 0 ∨ r = 1) σ := by
  refine ct_z hZ (by decide +kernel) (Nat.le_of_ble_eq_true rfl) hf (fun C K O hN hR hf => ?_)
  have O : Ok Z C RX12 cX12_isLike 3 0 0 := O
  change G Z C σ 0 [(0, .ref (za Z i0)), (1, .int p1)] []
  unfold fX12_isLike at hf
  refine g_aload_n O dX12_isLike_0 0 rfl rfl ?_
  refine g_getR O dX12_isLike_1 fx_RX12_31 h0 ?_
  refine g_iload_n O dX12_isLike_4 1 rfl rfl ?_
  refine g_iald O hN dX12_isLike_5 (kf_12_12 h0) hf (fun hf => ?_)
  refine g_aload_n O dX12_isLike_6 0 rfl rfl ?_
  refine g_getR O dX12_isLike_7 fx_RX12_28 h0 ?_
  refine g_iload_n O dX12_isLike_10 1 rfl rfl ?_
  refine g_iald O hN dX12_isLike_11 (kf_12_11 h0) hf (fun hf => ?_)
  refine g_isub O dX12_isLike_12 ?_
  refine g_aload_n O dX12_isLike_13 0 rfl rfl ?_
  refine g_getI O dX12_isLike_14 fx_RX12_84 h0 ?_
  refine g_icmp_eq 22 O dX12_isLike_17 (by decide) hf (fun c1 hf => ?_) (fun c1 hf => ?_)
  · refine g_iconst O dX12_isLike_22 (0 : Int32) (by decide) ?_
    refine g_istore_nP O dX12_isLike_23 rfl (by decide) [(2, .int (0 : Int32)), (0, .ref (za Z i0)), (1, .int p1)] rfl ?_
    refine g_lp hN (fun (a2 : Int32) => G Z C σ 24 [(2, .int a2), (0, .ref (za Z i0)), (1, .int p1)] []) hf (fun a2 _ hN2 hI2 hX2 hf => ?_)
    unfold sX12_isLike_24 at hf
    refine g_iload_n O dX12_isLike_24 0 rfl rfl ?_
    refine g_aload_n O dX12_isLike_25 1 rfl rfl ?_
    refine g_getI O dX12_isLike_26 fx_RX12_84 h0 ?_
    refine g_icmp_ge 62 O dX12_isLike_29 (by decide) hf (fun c3 hf => ?_) (fun c3 hf => ?_)
    · have hf := hX2 _ hf
      refine g_iconst O dX12_isLike_62 (1 : Int32) (by decide) ?_
      exact hR _ hf (Or.inr rfl) _ _ dX12_isLike_63
    · refine g_aload_n O dX12_isLike_32 1 rfl rfl ?_
      refine g_getR O dX12_isLike_33 fx_RX12_25 h0 ?_
      refine g_aload_n O dX12_isLike_36 1 rfl rfl ?_
      refine g_getR O dX12_isLike_37 fx_RX12_28 h0 ?_
      refine g_iload_n O dX12_isLike_40 2 rfl rfl ?_
      refine g_iald O hN2 dX12_isLike_41 (kf_12_11 h0) hf (fun hf => ?_)
      refine g_iload_n O dX12_isLike_42 0 rfl rfl ?_
      refine g_iadd O dX12_isLike_43 ?_
      refine g_iald O hN2 dX12_isLike_44 (kf_12_10 h0) hf (fun hf => ?_)
      refine g_aload_n O dX12_isLike_45 1 rfl rfl ?_
      refine g_getR O dX12_isLike_46 fx_RX12_19 h0 ?_
      refine g_iload_n O dX12_isLike_49 0 rfl rfl ?_
      refine g_iald O hN2 dX12_isLike_50 (kf_12_5 h0) hf (fun hf => ?_)
      refine g_icmp_eq 56 O dX12_isLike_51 (by decide) hf (fun c4 hf => ?_) (fun c4 hf => ?_)
      · refine g_iinc O dX12_isLike_56 0 rfl (by decide) (1) (by decide) (fun y => [(2, .int y), (0, .ref (za Z i0)), (1, .int p1)]) (fun _ => rfl) hf (fun x5 hf => ?_)
        refine g_goto 24 O dX12_isLike_59 (by decide) ?_
        exact hI2 _ hf
      · have hf := hX2 _ hf
        refine g_iconst O dX12_isLike_54 (0 : Int32) (by decide) ?_
        exact hR _ hf (Or.inl rfl) _ _ dX12_isLike_55
  · refine g_iconst O dX12_isLike_20 (0 : Int32) (by decide) ?_
    exact hR _ hf (Or.inl rfl) _ _ dX12_isLike_21

set_option maxHeartbeats 4000000 in
set_option maxRecDepth 100000 in
theorem ct_X12_apart {Z : ZT} (hZ : ZOk Z) {σ : Mem} {i0 : Nat} {p1 : Int32} (h0 : kn i0 = 12) {r : (Int32 × Mem)} (hf : fX12_apart σ i0 p1 = some r) : Ct Z yX12_apart cX12_apart 5 (some .int) 1 21 [.ref (za Z i0), .int p1] σ (some (.int r.1)) True r.2 := by
  refine ct_im hZ (by decide +kernel) (Nat.le_of_ble_eq_true rfl) hf (fun C K O hN hR hf => ?_)
  have O : Ok Z C RX12 cX12_apart 5 1 21 := O
  change G Z C σ 0 [(0, .ref (za Z i0)), (1, .int p1)] []
  unfold fX12_apart at hf
  refine g_aload_n O dX12_apart_0 0 rfl rfl ?_
  refine g_getR O dX12_apart_1 fx_RX12_31 h0 ?_
  refine g_iload_n O dX12_apart_4 1 rfl rfl ?_
  refine g_iald O hN dX12_apart_5 (kf_12_12 h0) hf (fun hf => ?_)
  refine g_aload_n O dX12_apart_6 0 rfl rfl ?_
  refine g_getR O dX12_apart_7 fx_RX12_28 h0 ?_
  refine g_iload_n O dX12_apart_10 1 rfl rfl ?_
  refine g_iald O hN dX12_apart_11 (kf_12_11 h0) hf (fun hf => ?_)
  refine g_isub O dX12_apart_12 ?_
  refine g_istore_n O dX12_apart_13 rfl (by decide) (fun y => [(2, .int y), (0, .ref (za Z i0)), (1, .int p1)]) (fun _ => rfl) hf (fun x1 hf => ?_)
  refine g_iconst O dX12_apart_14 (0 : Int32) (by decide) ?_
  refine g_istore_nP O dX12_apart_15 rfl (by decide) [(3, .int (0 : Int32)), (2, .int x1), (0, .ref (za Z i0)), (1, .int p1)] rfl ?_
  refine g_lp hN (fun (a2 : Int32 × Mem) => G Z C a2.2 16 [(3, .int a2.1), (2, .int x1), (0, .ref (za Z i0)), (1, .int p1)] []) hf (fun a2 _ hN2 hI2 hX2 hf => ?_)
  unfold sX12_apart_16 at hf
  refine g_iload_n O dX12_apart_16 0 rfl rfl ?_
  refine g_iload_n O dX12_apart_17 1 rfl rfl ?_
  refine g_icmp_gt 34 O dX12_apart_18 (by decide) hf (fun c3 hf => ?_) (fun c3 hf => ?_)
  · have hf := hX2 _ hf
    refine g_iconst O dX12_apart_34 (1 : Int32) (by decide) ?_
    refine g_istore_nP O dX12_apart_35 rfl (by decide) [(3, .int (1 : Int32)), (2, .int x1), (0, .ref (za Z i0)), (1, .int p1)] rfl ?_
    refine g_lp hN (fun (a4 : Int32 × Mem) => G Z C a4.2 36 [(3, .int a4.1), (2, .int x1), (0, .ref (za Z i0)), (1, .int p1)] []) hf (fun a4 _ hN4 hI4 hX4 hf => ?_)
    unfold sX12_apart_36 at hf
    refine g_iload_n O dX12_apart_36 0 rfl rfl ?_
    refine g_aload_n O dX12_apart_37 2 rfl rfl ?_
    refine g_getI O dX12_apart_38 fx_RX12_84 h0 ?_
    refine g_icmp_gt 174 O dX12_apart_41 (by decide) hf (fun c5 hf => ?_) (fun c5 hf => ?_)
    · have hf := hX4 _ hf
      refine g_aload_n O dX12_apart_174 2 rfl rfl ?_
      refine g_getR O dX12_apart_175 fx_RX12_34 h0 ?_
      refine g_iload_n O dX12_apart_178 1 rfl rfl ?_
      refine g_iald O hN dX12_apart_179 (kf_12_15 h0) hf (fun hf => ?_)
      exact hR _ _ hf _ _ dX12_apart_180
    · refine g_aload_n O dX12_apart_44 2 rfl rfl ?_
      refine g_getR O dX12_apart_45 fx_RX12_37 h0 ?_
      refine g_iconst O dX12_apart_48 (0 : Int32) (by decide) ?_
      refine g_iload_n O dX12_apart_49 0 rfl rfl ?_
      refine g_iast O hN4 dX12_apart_50 (kf_12_16 h0) hf (fun m6 hf => ?_)
      refine g_iconst O dX12_apart_51 (1 : Int32) (by decide) ?_
      refine g_istoreP O dX12_apart_52 (by decide) [(4, .int (1 : Int32)), (3, .int a4.1), (2, .int x1), (0, .ref (za Z i0)), (1, .int p1)] rfl ?_
      refine g_lp hN4 (fun (a7 : Int32 × Mem) => G Z C a7.2 54 [(4, .int a7.1), (3, .int a4.1), (2, .int x1), (0, .ref (za Z i0)), (1, .int p1)] []) hf (fun a7 _ hN7 hI7 hX7 hf => ?_)
      unfold sX12_apart_54 at hf
      refine g_iload O dX12_apart_54 0 rfl ?_
      refine g_iload_n O dX12_apart_56 2 rfl rfl ?_
      refine g_icmp_gt 139 O dX12_apart_57 (by decide) hf (fun c8 hf => ?_) (fun c8 hf => ?_)
      · have hf := hX7 _ hf
        refine g_iconst O dX12_apart_139 (0 : Int32) (by decide) ?_
        refine g_istoreP O dX12_apart_140 (by decide) [(4, .int (0 : Int32)), (3, .int a4.1), (2, .int x1), (0, .ref (za Z i0)), (1, .int p1)] rfl ?_
        refine g_lp hN4 (fun (a9 : Int32 × Mem) => G Z C a9.2 142 [(4, .int a9.1), (3, .int a4.1), (2, .int x1), (0, .ref (za Z i0)), (1, .int p1)] []) hf (fun a9 _ hN9 hI9 hX9 hf => ?_)
        unfold sX12_apart_142 at hf
        refine g_iload O dX12_apart_142 0 rfl ?_
        refine g_iload_n O dX12_apart_144 2 rfl rfl ?_
        refine g_icmp_gt 168 O dX12_apart_145 (by decide) hf (fun c10 hf => ?_) (fun c10 hf => ?_)
        · have hf := hX9 _ hf
          refine g_iinc O dX12_apart_168 1 rfl (by decide) (1) (by decide) (fun y => [(3, .int y), (4, .int a9.1), (2, .int x1), (0, .ref (za Z i0)), (1, .int p1)]) (fun _ => rfl) hf (fun x11 hf => ?_)
          refine g_goto 36 O dX12_apart_171 (by decide) ?_
          refine g_sub [0, 2, 3, 4] rfl ?_
          exact hI4 _ hf
        · refine g_aload_n O dX12_apart_148 3 rfl rfl ?_
          refine g_getR O dX12_apart_149 fx_RX12_34 h0 ?_
          refine g_iload O dX12_apart_152 0 rfl ?_
          refine g_aload_n O dX12_apart_154 3 rfl rfl ?_
          refine g_getR O dX12_apart_155 fx_RX12_37 h0 ?_
          refine g_iload O dX12_apart_158 0 rfl ?_
          refine g_iald O hN9 dX12_apart_160 (kf_12_16 h0) hf (fun hf => ?_)
          refine g_iast O hN9 dX12_apart_161 (kf_12_15 h0) hf (fun m12 hf => ?_)
          refine g_iinc O dX12_apart_162 0 rfl (by decide) (1) (by decide) (fun y => [(4, .int y), (3, .int a4.1), (2, .int x1), (0, .ref (za Z i0)), (1, .int p1)]) (fun _ => rfl) hf (fun x13 hf => ?_)
          refine g_goto 142 O dX12_apart_165 (by decide) ?_
          exact hI9 _ hf
      · refine g_aload_n O dX12_apart_60 3 rfl rfl ?_
        refine g_getR O dX12_apart_61 fx_RX12_37 h0 ?_
        refine g_iload O dX12_apart_64 0 rfl ?_
        refine g_aload_n O dX12_apart_66 3 rfl rfl ?_
        refine g_getR O dX12_apart_67 fx_RX12_34 h0 ?_
        refine g_iload O dX12_apart_70 0 rfl ?_
        refine g_iald O hN7 dX12_apart_72 (kf_12_15 h0) hf (fun hf => ?_)
        refine g_aload_n O dX12_apart_73 3 rfl rfl ?_
        refine g_getR O dX12_apart_74 fx_RX12_37 h0 ?_
        refine g_iload O dX12_apart_77 0 rfl ?_
        refine g_iconst O dX12_apart_79 (1 : Int32) (by decide) ?_
        refine g_isub O dX12_apart_80 ?_
        refine g_iald O hN7 dX12_apart_81 (kf_12_16 h0) hf (fun hf => ?_)
        refine g_mmin O dX12_apart_82 lm_RX12_140 mm_min.1 mm_min.2.1 mm_min.2.2 (by decide) (Nat.le_of_ble_eq_true rfl) ?_
        refine g_iconst O dX12_apart_85 (1 : Int32) (by decide) ?_
        refine g_iadd O dX12_apart_86 ?_
        refine g_aload_n O dX12_apart_87 3 rfl rfl ?_
        refine g_getR O dX12_apart_88 fx_RX12_34 h0 ?_
        refine g_iload O dX12_apart_91 0 rfl ?_
        refine g_iconst O dX12_apart_93 (1 : Int32) (by decide) ?_
        refine g_isub O dX12_apart_94 ?_
        refine g_iald O hN7 dX12_apart_95 (kf_12_15 h0) hf (fun hf => ?_)
        refine g_aload_n O dX12_apart_96 3 rfl rfl ?_
        refine g_getR O dX12_apart_97 fx_RX12_19 h0 ?_
        refine g_iload_n O dX12_apart_100 1 rfl rfl ?_
        refine g_iconst O dX12_apart_101 (1 : Int32) (by decide) ?_
        refine g_isub O dX12_apart_102 ?_
        refine g_iald O hN7 dX12_apart_103 (kf_12_5 h0) hf (fun hf => ?_)
        refine g_aload_n O dX12_apart_104 3 rfl rfl ?_
        refine g_getR O dX12_apart_105 fx_RX12_25 h0 ?_
        refine g_aload_n O dX12_apart_108 3 rfl rfl ?_
        refine g_getR O dX12_apart_109 fx_RX12_28 h0 ?_
        refine g_iload_n O dX12_apart_112 4 rfl rfl ?_
        refine g_iald O hN7 dX12_apart_113 (kf_12_11 h0) hf (fun hf => ?_)
        refine g_iload O dX12_apart_114 0 rfl ?_
        refine g_iadd O dX12_apart_116 ?_
        refine g_iconst O dX12_apart_117 (1 : Int32) (by decide) ?_
        refine g_isub O dX12_apart_118 ?_
        refine g_iald O hN7 dX12_apart_119 (kf_12_10 h0) hf (fun hf => ?_)
        refine g_jn (fun (y14 : Int32) => G Z C a7.2 128 [(4, .int a7.1), (3, .int a4.1), (2, .int x1), (0, .ref (za Z i0)), (1, .int p1)] [.int y14, .int (a7.2 (i0 + 9) (ix (a7.1 - (1 : Int32)))), .int ((imn (a7.2 (i0 + 9) (ix a7.1)) (a7.2 (i0 + 10) (ix (a7.1 - (1 : Int32))))) + (1 : Int32)), .int a7.1, .ref (za Z (i0 + 10))]) hf (fun y14 hf => ?_) (fun k14 hk14 hf => ?_)
        · refine g_iadd O dX12_apart_128 ?_
          refine g_mmin O dX12_apart_129 lm_RX12_140 mm_min.1 mm_min.2.1 mm_min.2.2 (by decide) (Nat.le_of_ble_eq_true rfl) ?_
          refine g_iast O hN7 dX12_apart_132 (kf_12_16 h0) hf (fun m15 hf => ?_)
          refine g_iinc O dX12_apart_133 0 rfl (by decide) (1) (by decide) (fun y => [(4, .int y), (3, .int a4.1), (2, .int x1), (0, .ref (za Z i0)), (1, .int p1)]) (fun _ => rfl) hf (fun x16 hf => ?_)
          refine g_goto 54 O dX12_apart_136 (by decide) ?_
          exact hI7 _ hf
        · skip
          refine g_icmp_ne 127 O dX12_apart_120 (by decide) hf (fun c17 hf => ?_) (fun c17 hf => ?_)
          · refine g_iconst O dX12_apart_123 (0 : Int32) (by decide) ?_
            refine g_goto 128 O dX12_apart_124 (by decide) ?_
            exact hk14 _ hf
          · refine g_iconst O dX12_apart_127 (1 : Int32) (by decide) ?_
            exact hk14 _ hf
  · refine g_aload_n O dX12_apart_21 2 rfl rfl ?_
    refine g_getR O dX12_apart_22 fx_RX12_34 h0 ?_
    refine g_iload_n O dX12_apart_25 0 rfl rfl ?_
    refine g_iload_n O dX12_apart_26 0 rfl rfl ?_
    refine g_iast O hN2 dX12_apart_27 (kf_12_15 h0) hf (fun m18 hf => ?_)
    refine g_iinc O dX12_apart_28 0 rfl (by decide) (1) (by decide) (fun y => [(3, .int y), (2, .int x1), (0, .ref (za Z i0)), (1, .int p1)]) (fun _ => rfl) hf (fun x19 hf => ?_)
    refine g_goto 16 O dX12_apart_31 (by decide) ?_
    exact hI2 _ hf

set_option maxHeartbeats 4000000 in
set_option maxRecDepth 100000 in
theorem ct_X12_atHole {Z : ZT} (hZ : ZOk Z) {σ : Mem} {i0 : Nat} {p1 : Int32} {p2 : Int32} {p3 : Int32} {p4 : Int32} {p5 : Int32} {p6 : Int32} (h0 : kn i0 = 12) {r : (Int32 × Mem)} (hf : fX12_atHole σ i0 p1 p2 p3 p4 p5 p6 = some r) : Ct Z yX12_atHole cX12_atHole 9 (some .int) 4 92 [.ref (za Z i0), .int p1, .int p2, .int p3, .int p4, .int p5, .int p6] σ (some (.int r.1)) True r.2 := by
  refine ct_im hZ (by decide +kernel) (Nat.le_of_ble_eq_true rfl) hf (fun C K O hN hR hf => ?_)
  have O : Ok Z C RX12 cX12_atHole 9 4 92 := O
  change G Z C σ 0 [(0, .ref (za Z i0)), (1, .int p1), (2, .int p2), (3, .int p3), (4, .int p4), (5, .int p5), (6, .int p6)] []
  unfold fX12_atHole at hf
  refine g_iload O dX12_atHole_0 6 rfl ?_
  refine g_jn (fun (y1 : Int32) => G Z C σ 11 [(0, .ref (za Z i0)), (1, .int p1), (2, .int p2), (3, .int p3), (4, .int p4), (5, .int p5), (6, .int p6)] [.int y1]) hf (fun y1 hf => ?_) (fun k1 hk1 hf => ?_)
  · refine g_istoreP O dX12_atHole_11 (by decide) [(7, .int y1), (0, .ref (za Z i0)), (1, .int p1), (2, .int p2), (3, .int p3), (4, .int p4), (5, .int p5), (6, .int p6)] rfl ?_
    refine g_iconst O dX12_atHole_13 (0 : Int32) (by decide) ?_
    refine g_istoreP O dX12_atHole_14 (by decide) [(8, .int (0 : Int32)), (7, .int y1), (0, .ref (za Z i0)), (1, .int p1), (2, .int p2), (3, .int p3), (4, .int p4), (5, .int p5), (6, .int p6)] rfl ?_
    refine g_lp hN (fun (a2 : Int32 × Int32 × Mem) => G Z C a2.2.2 16 [(8, .int a2.1), (7, .int a2.2.1), (0, .ref (za Z i0)), (1, .int p1), (2, .int p2), (3, .int p3), (4, .int p4), (5, .int p5), (6, .int p6)] []) hf (fun a2 _ hN2 hI2 hX2 hf => ?_)
    unfold sX12_atHole_16 at hf
    refine g_iload O dX12_atHole_16 0 rfl ?_
    refine g_aload_n O dX12_atHole_18 2 rfl rfl ?_
    refine g_getR O dX12_atHole_19 fx_RX12_9 h0 ?_
    refine g_iconst O dX12_atHole_22 (0 : Int32) (by decide) ?_
    refine g_iald O hN2 dX12_atHole_23 (kf_12_0 h0) hf (fun hf => ?_)
    refine g_icmp_ge 100 O dX12_atHole_24 (by decide) hf (fun c3 hf => ?_) (fun c3 hf => ?_)
    · have hf := hX2 _ hf
      refine g_iload O dX12_atHole_100 1 rfl ?_
      exact hR _ _ hf _ _ dX12_atHole_102
    · refine g_aload_n O dX12_atHole_27 2 rfl rfl ?_
      refine g_iload_n O dX12_atHole_28 3 rfl rfl ?_
      refine g_iload_n O dX12_atHole_29 4 rfl rfl ?_
      refine g_iload O dX12_atHole_30 0 rfl ?_
      obtain ⟨q4, hq4, hf⟩ := k_obd hN2 hf
      refine g_callV (rest := []) O dX12_atHole_32 (ct_X12_canBe hZ h0 hq4) vx_RX12_148 h0 rfl rfl (by decide) (Nat.le_of_ble_eq_true rfl) (fun hp5 => ?_)
      change G Z C a2.2.2 35 [(8, .int a2.1), (7, .int a2.2.1), (0, .ref (za Z i0)), (1, .int p1), (2, .int p2), (3, .int p3), (4, .int p4), (5, .int p5), (6, .int p6)] [.int q4]
      refine g_if_ne 41 O dX12_atHole_35 (by decide) hf (fun c6 hf => ?_) (fun c6 hf => ?_)
      · refine g_goto 94 O dX12_atHole_38 (by decide) ?_
        refine g_iinc O dX12_atHole_94 0 rfl (by decide) (1) (by decide) (fun y => [(8, .int y), (7, .int a2.2.1), (0, .ref (za Z i0)), (1, .int p1), (2, .int p2), (3, .int p3), (4, .int p4), (5, .int p5), (6, .int p6)]) (fun _ => rfl) hf (fun x7 hf => ?_)
        refine g_goto 16 O dX12_atHole_97 (by decide) ?_
        exact hI2 _ hf
      · refine g_aload_n O dX12_atHole_41 2 rfl rfl ?_
        refine g_iload O dX12_atHole_42 0 rfl ?_
        refine g_iconst O dX12_atHole_44 (0 : Int32) (by decide) ?_
        refine g_aload_n O dX12_atHole_45 2 rfl rfl ?_
        refine g_iload_n O dX12_atHole_46 3 rfl rfl ?_
        refine g_iload_n O dX12_atHole_47 4 rfl rfl ?_
        refine g_iconst O dX12_atHole_48 (2 : Int32) (by decide) ?_
        obtain ⟨q8, hq8, hf⟩ := k_obd hN2 hf
        refine g_callV (rest := [.int (0 : Int32), .int a2.1, .ref (za Z i0)]) O dX12_atHole_49 (ct_X12_ofHole hZ h0 hq8) vx_RX12_115 h0 rfl rfl (by decide) (Nat.le_of_ble_eq_true rfl) (fun hp9 => ?_)
        change G Z C a2.2.2 52 [(8, .int a2.1), (7, .int a2.2.1), (0, .ref (za Z i0)), (1, .int p1), (2, .int p2), (3, .int p3), (4, .int p4), (5, .int p5), (6, .int p6)] [.int q8, .int (0 : Int32), .int a2.1, .ref (za Z i0)]
        refine g_mmax O dX12_atHole_52 lm_RX12_163 mm_max.1 mm_max.2.1 mm_max.2.2 (by decide) (Nat.le_of_ble_eq_true rfl) ?_
        refine g_iload_n O dX12_atHole_55 5 rfl rfl ?_
        refine g_iload O dX12_atHole_56 6 rfl ?_
        refine g_iload O dX12_atHole_58 7 rfl ?_
        obtain ⟨q10, hq10, hf⟩ := k_obd hN2 hf
        refine g_callV (rest := []) O dX12_atHole_60 (ct_X12_forms hZ h0 hq10) vx_RX12_111 h0 rfl rfl (by decide) (Nat.le_of_ble_eq_true rfl) (fun hp11 => ?_)
        change G Z C q10 63 [(8, .int a2.1), (7, .int a2.2.1), (0, .ref (za Z i0)), (1, .int p1), (2, .int p2), (3, .int p3), (4, .int p4), (5, .int p5), (6, .int p6)] []
        refine g_iload O dX12_atHole_63 8 rfl ?_
        refine g_if_eq 83 O dX12_atHole_65 (by decide) hf (fun c12 hf => ?_) (fun c12 hf => ?_)
        · refine g_aload_n O dX12_atHole_83 2 rfl rfl ?_
          refine g_iload_n O dX12_atHole_84 4 rfl rfl ?_
          obtain ⟨q13, hq13, hf⟩ := k_obd hN2 hf
          refine g_callV (rest := []) O dX12_atHole_85 (ct_X12_isLike hZ h0 hq13) vx_RX12_211 h0 rfl rfl (by decide) (Nat.le_of_ble_eq_true rfl) (fun hp14 => ?_)
          change G Z C q10 88 [(8, .int a2.1), (7, .int a2.2.1), (0, .ref (za Z i0)), (1, .int p1), (2, .int p2), (3, .int p3), (4, .int p4), (5, .int p5), (6, .int p6)] [.int q13]
          refine g_if_eq 94 O dX12_atHole_88 (by decide) hf (fun c15 hf => ?_) (fun c15 hf => ?_)
          · refine g_iinc O dX12_atHole_94 0 rfl (by decide) (1) (by decide) (fun y => [(8, .int y), (7, .int a2.2.1), (0, .ref (za Z i0)), (1, .int p1), (2, .int p2), (3, .int p3), (4, .int p4), (5, .int p5), (6, .int p6)]) (fun _ => rfl) hf (fun x16 hf => ?_)
            refine g_goto 16 O dX12_atHole_97 (by decide) ?_
            exact hI2 _ hf
          · refine g_iinc O dX12_atHole_91 1 rfl (by decide) (1) (by decide) (fun y => [(7, .int y), (8, .int a2.1), (0, .ref (za Z i0)), (1, .int p1), (2, .int p2), (3, .int p3), (4, .int p4), (5, .int p5), (6, .int p6)]) (fun _ => rfl) hf (fun x17 hf => ?_)
            refine g_iinc O dX12_atHole_94 1 rfl (by decide) (1) (by decide) (fun y => [(8, .int y), (7, .int x17), (0, .ref (za Z i0)), (1, .int p1), (2, .int p2), (3, .int p3), (4, .int p4), (5, .int p5), (6, .int p6)]) (fun _ => rfl) hf (fun x18 hf => ?_)
            refine g_goto 16 O dX12_atHole_97 (by decide) ?_
            exact hI2 _ hf
        · refine g_iload O dX12_atHole_68 1 rfl ?_
          refine g_aload_n O dX12_atHole_70 2 rfl rfl ?_
          refine g_iload_n O dX12_atHole_71 4 rfl rfl ?_
          obtain ⟨q19, hq19, hf⟩ := k_obd hN2 hf
          refine g_callV (rest := [.int a2.2.1]) O dX12_atHole_72 (ct_X12_apart hZ h0 hq19) vx_RX12_208 h0 rfl rfl (by decide) (Nat.le_of_ble_eq_true rfl) (fun hp20 => ?_)
          change G Z C q19.2 75 [(8, .int a2.1), (7, .int a2.2.1), (0, .ref (za Z i0)), (1, .int p1), (2, .int p2), (3, .int p3), (4, .int p4), (5, .int p5), (6, .int p6)] [.int q19.1, .int a2.2.1]
          refine g_mmin O dX12_atHole_75 lm_RX12_140 mm_min.1 mm_min.2.1 mm_min.2.2 (by decide) (Nat.le_of_ble_eq_true rfl) ?_
          refine g_istore O dX12_atHole_78 (by decide) (fun y => [(7, .int y), (8, .int a2.1), (0, .ref (za Z i0)), (1, .int p1), (2, .int p2), (3, .int p3), (4, .int p4), (5, .int p5), (6, .int p6)]) (fun _ => rfl) hf (fun x21 hf => ?_)
          refine g_goto 94 O dX12_atHole_80 (by decide) ?_
          refine g_iinc O dX12_atHole_94 1 rfl (by decide) (1) (by decide) (fun y => [(8, .int y), (7, .int x21), (0, .ref (za Z i0)), (1, .int p1), (2, .int p2), (3, .int p3), (4, .int p4), (5, .int p5), (6, .int p6)]) (fun _ => rfl) hf (fun x22 hf => ?_)
          refine g_goto 16 O dX12_atHole_97 (by decide) ?_
          exact hI2 _ hf
  · skip
    refine g_if_eq 10 O dX12_atHole_2 (by decide) hf (fun c23 hf => ?_) (fun c23 hf => ?_)
    · refine g_iconst O dX12_atHole_10 (0 : Int32) (by decide) ?_
      exact hk1 _ hf
    · refine g_ldc O dX12_atHole_5 lc_RX12_207 ?_
      refine g_goto 11 O dX12_atHole_7 (by decide) ?_
      exact hk1 _ hf

set_option maxHeartbeats 4000000 in
set_option maxRecDepth 100000 in
theorem ct_X12_byNoun {Z : ZT} (hZ : ZOk Z) {σ : Mem} {i0 : Nat} {p1 : Int32} {p2 : Int32} {p3 : Int32} {p4 : Int32} {p5 : Int32} {p6 : Int32} (h0 : kn i0 = 12) {r : (Int32 × Mem)} (hf : fX12_byNoun σ i0 p1 p2 p3 p4 p5 p6 = some r) : Ct Z yX12_byNoun cX12_byNoun 11 (some .int) 5 120 [.ref (za Z i0), .int p1, .int p2, .int p3, .int p4, .int p5, .int p6] σ (some (.int r.1)) True r.2 := by
  refine ct_im hZ (by decide +kernel) (Nat.le_of_ble_eq_true rfl) hf (fun C K O hN hR hf => ?_)
  have O : Ok Z C RX12 cX12_byNoun 11 5 120 := O
  change G Z C σ 0 [(0, .ref (za Z i0)), (1, .int p1), (2, .int p2), (3, .int p3), (4, .int p4), (5, .int p5), (6, .int p6)] []
  unfold fX12_byNoun at hf
  refine g_aload_n O dX12_byNoun_0 0 rfl rfl ?_
  refine g_iload_n O dX12_byNoun_1 1 rfl rfl ?_
  refine g_iload_n O dX12_byNoun_2 2 rfl rfl ?_
  obtain ⟨q1, hq1, hf⟩ := k_obd hN hf
  refine g_callV (rest := []) O dX12_byNoun_3 (ct_X12_holeOf hZ h0 hq1) vx_RX12_160 h0 rfl rfl (by decide) (Nat.le_of_ble_eq_true rfl) (fun hp2 => ?_)
  change G Z C σ 6 [(0, .ref (za Z i0)), (1, .int p1), (2, .int p2), (3, .int p3), (4, .int p4), (5, .int p5), (6, .int p6)] [.int q1]
  refine g_istoreP O dX12_byNoun_6 (by decide) [(7, .int q1), (0, .ref (za Z i0)), (1, .int p1), (2, .int p2), (3, .int p3), (4, .int p4), (5, .int p5), (6, .int p6)] rfl ?_
  refine g_aload_n O dX12_byNoun_8 1 rfl rfl ?_
  refine g_iload_n O dX12_byNoun_9 4 rfl rfl ?_
  refine g_aload_n O dX12_byNoun_10 1 rfl rfl ?_
  refine g_iload_n O dX12_byNoun_11 2 rfl rfl ?_
  refine g_iload O dX12_byNoun_12 0 rfl ?_
  refine g_iconst O dX12_byNoun_14 (2 : Int32) (by decide) ?_
  obtain ⟨q3, hq3, hf⟩ := k_obd hN hf
  refine g_callV (rest := [.int p3, .ref (za Z i0)]) O dX12_byNoun_15 (ct_X12_ofHole hZ h0 hq3) vx_RX12_115 h0 rfl rfl (by decide) (Nat.le_of_ble_eq_true rfl) (fun hp4 => ?_)
  change G Z C σ 18 [(7, .int q1), (0, .ref (za Z i0)), (1, .int p1), (2, .int p2), (3, .int p3), (4, .int p4), (5, .int p5), (6, .int p6)] [.int q3, .int p3, .ref (za Z i0)]
  refine g_iload O dX12_byNoun_18 5 rfl ?_
  refine g_aload_n O dX12_byNoun_20 1 rfl rfl ?_
  refine g_iload_n O dX12_byNoun_21 4 rfl rfl ?_
  obtain ⟨q5, hq5, hf⟩ := k_obd hN hf
  refine g_callV (rest := [.int p4, .int q3, .int p3, .ref (za Z i0)]) O dX12_byNoun_22 (ct_X12_gender hZ h0 hq5) vx_RX12_108 h0 rfl rfl (by decide) (Nat.le_of_ble_eq_true rfl) (fun hp6 => ?_)
  change G Z C σ 25 [(7, .int q1), (0, .ref (za Z i0)), (1, .int p1), (2, .int p2), (3, .int p3), (4, .int p4), (5, .int p5), (6, .int p6)] [.int q5, .int p4, .int q3, .int p3, .ref (za Z i0)]
  refine g_iload O dX12_byNoun_25 6 rfl ?_
  obtain ⟨q7, hq7, hf⟩ := k_obd hN hf
  refine g_callV (rest := []) O dX12_byNoun_27 (ct_X12_forms hZ h0 hq7) vx_RX12_111 h0 rfl rfl (by decide) (Nat.le_of_ble_eq_true rfl) (fun hp8 => ?_)
  change G Z C q7 30 [(7, .int q1), (0, .ref (za Z i0)), (1, .int p1), (2, .int p2), (3, .int p3), (4, .int p4), (5, .int p5), (6, .int p6)] []
  refine g_iload O dX12_byNoun_30 7 rfl ?_
  refine g_jn (fun (y9 : Int32 × Mem) => G Z C y9.2 58 [(7, .int q1), (0, .ref (za Z i0)), (1, .int p1), (2, .int p2), (3, .int p3), (4, .int p4), (5, .int p5), (6, .int p6)] [.int y9.1]) hf (fun y9 hf => ?_) (fun k9 hk9 hf => ?_)
  · refine g_istoreP O dX12_byNoun_58 (by decide) [(8, .int y9.1), (7, .int q1), (0, .ref (za Z i0)), (1, .int p1), (2, .int p2), (3, .int p3), (4, .int p4), (5, .int p5), (6, .int p6)] rfl ?_
    refine g_iconst O dX12_byNoun_60 (0 : Int32) (by decide) ?_
    refine g_istoreP O dX12_byNoun_61 (by decide) [(9, .int (0 : Int32)), (8, .int y9.1), (7, .int q1), (0, .ref (za Z i0)), (1, .int p1), (2, .int p2), (3, .int p3), (4, .int p4), (5, .int p5), (6, .int p6)] rfl ?_
    refine g_lp hN (fun (a10 : Int32 × Int32 × Mem) => G Z C a10.2.2 63 [(9, .int a10.1), (8, .int a10.2.1), (7, .int q1), (0, .ref (za Z i0)), (1, .int p1), (2, .int p2), (3, .int p3), (4, .int p4), (5, .int p5), (6, .int p6)] []) hf (fun a10 _ hN10 hI10 hX10 hf => ?_)
    unfold sX12_byNoun_63 at hf
    refine g_iload O dX12_byNoun_63 0 rfl ?_
    refine g_aload_n O dX12_byNoun_65 3 rfl rfl ?_
    refine g_iload_n O dX12_byNoun_66 4 rfl rfl ?_
    obtain ⟨q11, hq11, hf⟩ := k_obd hN10 hf
    refine g_callV (rest := [.int a10.1]) O dX12_byNoun_67 (ct_X12_holes hZ h0 hq11) vx_RX12_154 h0 rfl rfl (by decide) (Nat.le_of_ble_eq_true rfl) (fun hp12 => ?_)
    change G Z C a10.2.2 70 [(9, .int a10.1), (8, .int a10.2.1), (7, .int q1), (0, .ref (za Z i0)), (1, .int p1), (2, .int p2), (3, .int p3), (4, .int p4), (5, .int p5), (6, .int p6)] [.int q11, .int a10.1]
    refine g_icmp_ge 151 O dX12_byNoun_70 (by decide) hf (fun c13 hf => ?_) (fun c13 hf => ?_)
    · have hf := hX10 _ hf
      refine g_iload O dX12_byNoun_151 1 rfl ?_
      exact hR _ _ hf _ _ dX12_byNoun_153
    · refine g_iload O dX12_byNoun_73 9 rfl ?_
      refine g_jn (fun (y14 : Unit) => G Z C a10.2.2 83 [(9, .int a10.1), (8, .int a10.2.1), (7, .int q1), (0, .ref (za Z i0)), (1, .int p1), (2, .int p2), (3, .int p3), (4, .int p4), (5, .int p5), (6, .int p6)] []) hf (fun y14 hf => ?_) (fun k14 hk14 hf => ?_)
      · refine g_iload O dX12_byNoun_83 0 rfl ?_
        refine g_iload O dX12_byNoun_85 2 rfl ?_
        refine g_icmp_eq 145 O dX12_byNoun_87 (by decide) hf (fun c15 hf => ?_) (fun c15 hf => ?_)
        · refine g_iinc O dX12_byNoun_145 0 rfl (by decide) (1) (by decide) (fun y => [(9, .int y), (8, .int a10.2.1), (7, .int q1), (0, .ref (za Z i0)), (1, .int p1), (2, .int p2), (3, .int p3), (4, .int p4), (5, .int p5), (6, .int p6)]) (fun _ => rfl) hf (fun x16 hf => ?_)
          refine g_goto 63 O dX12_byNoun_148 (by decide) ?_
          exact hI10 _ hf
        · refine g_aload_n O dX12_byNoun_90 3 rfl rfl ?_
          refine g_iload_n O dX12_byNoun_91 4 rfl rfl ?_
          refine g_iload O dX12_byNoun_92 0 rfl ?_
          refine g_iconst O dX12_byNoun_94 (1 : Int32) (by decide) ?_
          obtain ⟨q17, hq17, hf⟩ := k_obd hN10 hf
          refine g_callV (rest := []) O dX12_byNoun_95 (ct_X12_ofHole hZ h0 hq17) vx_RX12_115 h0 rfl rfl (by decide) (Nat.le_of_ble_eq_true rfl) (fun hp18 => ?_)
          change G Z C a10.2.2 98 [(9, .int a10.1), (8, .int a10.2.1), (7, .int q1), (0, .ref (za Z i0)), (1, .int p1), (2, .int p2), (3, .int p3), (4, .int p4), (5, .int p5), (6, .int p6)] [.int q17]
          refine g_iload_n O dX12_byNoun_98 5 rfl rfl ?_
          refine g_icmp_eq 105 O dX12_byNoun_99 (by decide) hf (fun c19 hf => ?_) (fun c19 hf => ?_)
          · refine g_aload_n O dX12_byNoun_105 3 rfl rfl ?_
            refine g_iload_n O dX12_byNoun_106 4 rfl rfl ?_
            refine g_iload O dX12_byNoun_107 0 rfl ?_
            refine g_iload O dX12_byNoun_109 7 rfl ?_
            refine g_aload_n O dX12_byNoun_111 3 rfl rfl ?_
            refine g_iload_n O dX12_byNoun_112 6 rfl rfl ?_
            obtain ⟨q20, hq20, hf⟩ := k_obd hN10 hf
            refine g_callV (rest := [.int p4, .int a10.1, .int p1, .ref (za Z i0)]) O dX12_byNoun_113 (ct_X12_gender hZ h0 hq20) vx_RX12_108 h0 rfl rfl (by decide) (Nat.le_of_ble_eq_true rfl) (fun hp21 => ?_)
            change G Z C a10.2.2 116 [(9, .int a10.1), (8, .int a10.2.1), (7, .int q1), (0, .ref (za Z i0)), (1, .int p1), (2, .int p2), (3, .int p3), (4, .int p4), (5, .int p5), (6, .int p6)] [.int q20, .int p4, .int a10.1, .int p1, .ref (za Z i0)]
            refine g_iload O dX12_byNoun_116 8 rfl ?_
            refine g_iload O dX12_byNoun_118 9 rfl ?_
            obtain ⟨q22, hq22, hf⟩ := k_obd hN10 hf
            refine g_callV (rest := []) O dX12_byNoun_120 (ct_X12_atHole hZ h0 hq22) vx_RX12_214 h0 rfl rfl (by decide) (Nat.le_of_ble_eq_true rfl) (fun hp23 => ?_)
            change G Z C q22.2 123 [(9, .int a10.1), (8, .int a10.2.1), (7, .int q1), (0, .ref (za Z i0)), (1, .int p1), (2, .int p2), (3, .int p3), (4, .int p4), (5, .int p5), (6, .int p6)] [.int q22.1]
            refine g_istoreP O dX12_byNoun_123 (by decide) [(10, .int q22.1), (9, .int a10.1), (8, .int a10.2.1), (7, .int q1), (0, .ref (za Z i0)), (1, .int p1), (2, .int p2), (3, .int p3), (4, .int p4), (5, .int p5), (6, .int p6)] rfl ?_
            refine g_iload O dX12_byNoun_125 10 rfl ?_
            refine g_if_eq 138 O dX12_byNoun_127 (by decide) hf (fun c24 hf => ?_) (fun c24 hf => ?_)
            · refine g_iload O dX12_byNoun_138 2 rfl ?_
              refine g_iload O dX12_byNoun_140 0 rfl ?_
              refine g_imul O dX12_byNoun_142 ?_
              refine g_istore O dX12_byNoun_143 (by decide) (fun y => [(8, .int y), (10, .int q22.1), (9, .int a10.1), (7, .int q1), (0, .ref (za Z i0)), (1, .int p1), (2, .int p2), (3, .int p3), (4, .int p4), (5, .int p5), (6, .int p6)]) (fun _ => rfl) hf (fun x25 hf => ?_)
              refine g_iinc O dX12_byNoun_145 2 rfl (by decide) (1) (by decide) (fun y => [(9, .int y), (8, .int x25), (10, .int q22.1), (7, .int q1), (0, .ref (za Z i0)), (1, .int p1), (2, .int p2), (3, .int p3), (4, .int p4), (5, .int p5), (6, .int p6)]) (fun _ => rfl) hf (fun x26 hf => ?_)
              refine g_goto 63 O dX12_byNoun_148 (by decide) ?_
              refine g_sub [0, 1, 3, 4, 5, 6, 7, 8, 9, 10] rfl ?_
              exact hI10 _ hf
            · refine g_iload O dX12_byNoun_130 2 rfl ?_
              refine g_iload O dX12_byNoun_132 0 rfl ?_
              refine g_iadd O dX12_byNoun_134 ?_
              refine g_goto 143 O dX12_byNoun_135 (by decide) ?_
              refine g_istore O dX12_byNoun_143 (by decide) (fun y => [(8, .int y), (10, .int q22.1), (9, .int a10.1), (7, .int q1), (0, .ref (za Z i0)), (1, .int p1), (2, .int p2), (3, .int p3), (4, .int p4), (5, .int p5), (6, .int p6)]) (fun _ => rfl) hf (fun x27 hf => ?_)
              refine g_iinc O dX12_byNoun_145 2 rfl (by decide) (1) (by decide) (fun y => [(9, .int y), (8, .int x27), (10, .int q22.1), (7, .int q1), (0, .ref (za Z i0)), (1, .int p1), (2, .int p2), (3, .int p3), (4, .int p4), (5, .int p5), (6, .int p6)]) (fun _ => rfl) hf (fun x28 hf => ?_)
              refine g_goto 63 O dX12_byNoun_148 (by decide) ?_
              refine g_sub [0, 1, 3, 4, 5, 6, 7, 8, 9, 10] rfl ?_
              exact hI10 _ hf
          · refine g_goto 145 O dX12_byNoun_102 (by decide) ?_
            refine g_iinc O dX12_byNoun_145 0 rfl (by decide) (1) (by decide) (fun y => [(9, .int y), (8, .int a10.2.1), (7, .int q1), (0, .ref (za Z i0)), (1, .int p1), (2, .int p2), (3, .int p3), (4, .int p4), (5, .int p5), (6, .int p6)]) (fun _ => rfl) hf (fun x29 hf => ?_)
            refine g_goto 63 O dX12_byNoun_148 (by decide) ?_
            exact hI10 _ hf
      · skip
        refine g_if_ne 83 O dX12_byNoun_75 (by decide) hf (fun c30 hf => ?_) (fun c30 hf => ?_)
        · refine g_iload O dX12_byNoun_78 1 rfl ?_
          refine g_if_le 151 O dX12_byNoun_80 (by decide) hf (fun c31 hf => ?_) (fun c31 hf => ?_)
          · have hf := hX10 _ hf
            refine g_iload O dX12_byNoun_151 1 rfl ?_
            exact hR _ _ hf _ _ dX12_byNoun_153
          · exact hk14 _ hf
        · exact hk14 _ hf
  · skip
    refine g_if_eq 44 O dX12_byNoun_32 (by decide) hf (fun c32 hf => ?_) (fun c32 hf => ?_)
    · refine g_aload_n O dX12_byNoun_44 1 rfl rfl ?_
      refine g_iload O dX12_byNoun_45 0 rfl ?_
      obtain ⟨q33, hq33, hf⟩ := k_obd hN hf
      refine g_callV (rest := []) O dX12_byNoun_47 (ct_X12_isLike hZ h0 hq33) vx_RX12_211 h0 rfl rfl (by decide) (Nat.le_of_ble_eq_true rfl) (fun hp34 => ?_)
      change G Z C q7 50 [(7, .int q1), (0, .ref (za Z i0)), (1, .int p1), (2, .int p2), (3, .int p3), (4, .int p4), (5, .int p5), (6, .int p6)] [.int q33]
      refine g_if_eq 57 O dX12_byNoun_50 (by decide) hf (fun c35 hf => ?_) (fun c35 hf => ?_)
      · refine g_iconst O dX12_byNoun_57 (0 : Int32) (by decide) ?_
        exact hk9 _ hf
      · refine g_iconst O dX12_byNoun_53 (1 : Int32) (by decide) ?_
        refine g_goto 58 O dX12_byNoun_54 (by decide) ?_
        exact hk9 _ hf
    · refine g_aload_n O dX12_byNoun_35 1 rfl rfl ?_
      refine g_iload O dX12_byNoun_36 0 rfl ?_
      obtain ⟨q36, hq36, hf⟩ := k_obd hN hf
      refine g_callV (rest := []) O dX12_byNoun_38 (ct_X12_apart hZ h0 hq36) vx_RX12_208 h0 rfl rfl (by decide) (Nat.le_of_ble_eq_true rfl) (fun hp37 => ?_)
      change G Z C q36.2 41 [(7, .int q1), (0, .ref (za Z i0)), (1, .int p1), (2, .int p2), (3, .int p3), (4, .int p4), (5, .int p5), (6, .int p6)] [.int q36.1]
      refine g_goto 58 O dX12_byNoun_41 (by decide) ?_
      exact hk9 _ hf

set_option maxHeartbeats 4000000 in
set_option maxRecDepth 100000 in
theorem ct_X12_byGroup {Z : ZT} (hZ : ZOk Z) {σ : Mem} {i0 : Nat} {p1 : Int32} {p2 : Int32} {p3 : Int32} {p4 : Int32} (h0 : kn i0 = 12) {r : (Int32 × Mem)} (hf : fX12_byGroup σ i0 p1 p2 p3 p4 = some r) : Ct Z yX12_byGroup cX12_byGroup 9 (some .int) 6 150 [.ref (za Z i0), .int p1, .int p2, .int p3, .int p4] σ (some (.int r.1)) True r.2 := by
  refine ct_im hZ (by decide +kernel) (Nat.le_of_ble_eq_true rfl) hf (fun C K O hN hR hf => ?_)
  have O : Ok Z C RX12 cX12_byGroup 9 6 150 := O
  change G Z C σ 0 [(0, .ref (za Z i0)), (1, .int p1), (2, .int p2), (3, .int p3), (4, .int p4)] []
  unfold fX12_byGroup at hf
  refine g_iload O dX12_byGroup_0 4 rfl ?_
  refine g_jn (fun (y1 : Int32) => G Z C σ 11 [(0, .ref (za Z i0)), (1, .int p1), (2, .int p2), (3, .int p3), (4, .int p4)] [.int y1]) hf (fun y1 hf => ?_) (fun k1 hk1 hf => ?_)
  · refine g_istoreP O dX12_byGroup_11 (by decide) [(5, .int y1), (0, .ref (za Z i0)), (1, .int p1), (2, .int p2), (3, .int p3), (4, .int p4)] rfl ?_
    refine g_iconst O dX12_byGroup_13 (0 : Int32) (by decide) ?_
    refine g_istoreP O dX12_byGroup_14 (by decide) [(6, .int (0 : Int32)), (5, .int y1), (0, .ref (za Z i0)), (1, .int p1), (2, .int p2), (3, .int p3), (4, .int p4)] rfl ?_
    refine g_lp hN (fun (a2 : Int32 × Int32 × Mem) => G Z C a2.2.2 16 [(6, .int a2.1), (5, .int a2.2.1), (0, .ref (za Z i0)), (1, .int p1), (2, .int p2), (3, .int p3), (4, .int p4)] []) hf (fun a2 _ hN2 hI2 hX2 hf => ?_)
    unfold sX12_byGroup_16 at hf
    refine g_iload O dX12_byGroup_16 0 rfl ?_
    refine g_aload_n O dX12_byGroup_18 2 rfl rfl ?_
    refine g_getR O dX12_byGroup_19 fx_RX12_9 h0 ?_
    refine g_iconst O dX12_byGroup_22 (0 : Int32) (by decide) ?_
    refine g_iald O hN2 dX12_byGroup_23 (kf_12_0 h0) hf (fun hf => ?_)
    refine g_icmp_ge 118 O dX12_byGroup_24 (by decide) hf (fun c3 hf => ?_) (fun c3 hf => ?_)
    · have hf := hX2 _ hf
      refine g_iload O dX12_byGroup_118 1 rfl ?_
      exact hR _ _ hf _ _ dX12_byGroup_120
    · refine g_aload_n O dX12_byGroup_27 2 rfl rfl ?_
      refine g_iload_n O dX12_byGroup_28 3 rfl rfl ?_
      refine g_aload_n O dX12_byGroup_29 2 rfl rfl ?_
      refine g_iload_n O dX12_byGroup_30 3 rfl rfl ?_
      refine g_iload_n O dX12_byGroup_31 4 rfl rfl ?_
      obtain ⟨q4, hq4, hf⟩ := k_obd hN2 hf
      refine g_callV (rest := [.int p1, .ref (za Z i0)]) O dX12_byGroup_32 (ct_X12_holeOf hZ h0 hq4) vx_RX12_160 h0 rfl rfl (by decide) (Nat.le_of_ble_eq_true rfl) (fun hp5 => ?_)
      change G Z C a2.2.2 35 [(6, .int a2.1), (5, .int a2.2.1), (0, .ref (za Z i0)), (1, .int p1), (2, .int p2), (3, .int p3), (4, .int p4)] [.int q4, .int p1, .ref (za Z i0)]
      refine g_iload O dX12_byGroup_35 0 rfl ?_
      obtain ⟨q6, hq6, hf⟩ := k_obd hN2 hf
      refine g_callV (rest := []) O dX12_byGroup_37 (ct_X12_canBe hZ h0 hq6) vx_RX12_148 h0 rfl rfl (by decide) (Nat.le_of_ble_eq_true rfl) (fun hp7 => ?_)
      change G Z C a2.2.2 40 [(6, .int a2.1), (5, .int a2.2.1), (0, .ref (za Z i0)), (1, .int p1), (2, .int p2), (3, .int p3), (4, .int p4)] [.int q6]
      refine g_if_ne 46 O dX12_byGroup_40 (by decide) hf (fun c8 hf => ?_) (fun c8 hf => ?_)
      · refine g_goto 112 O dX12_byGroup_43 (by decide) ?_
        refine g_iinc O dX12_byGroup_112 0 rfl (by decide) (1) (by decide) (fun y => [(6, .int y), (5, .int a2.2.1), (0, .ref (za Z i0)), (1, .int p1), (2, .int p2), (3, .int p3), (4, .int p4)]) (fun _ => rfl) hf (fun x9 hf => ?_)
        refine g_goto 16 O dX12_byGroup_115 (by decide) ?_
        exact hI2 _ hf
      · refine g_iconst O dX12_byGroup_46 (0 : Int32) (by decide) ?_
        refine g_istoreP O dX12_byGroup_47 (by decide) [(7, .int (0 : Int32)), (6, .int a2.1), (5, .int a2.2.1), (0, .ref (za Z i0)), (1, .int p1), (2, .int p2), (3, .int p3), (4, .int p4)] rfl ?_
        refine g_lp hN2 (fun (a10 : Int32 × Int32 × Mem) => G Z C a10.2.2 49 [(7, .int a10.1), (6, .int a2.1), (5, .int a10.2.1), (0, .ref (za Z i0)), (1, .int p1), (2, .int p2), (3, .int p3), (4, .int p4)] []) hf (fun a10 _ hN10 hI10 hX10 hf => ?_)
        unfold sX12_byGroup_49 at hf
        refine g_iload O dX12_byGroup_49 0 rfl ?_
        refine g_aload_n O dX12_byGroup_51 3 rfl rfl ?_
        refine g_iload O dX12_byGroup_52 1 rfl ?_
        obtain ⟨q11, hq11, hf⟩ := k_obd hN10 hf
        refine g_callV (rest := [.int a10.1]) O dX12_byGroup_54 (ct_X12_kind hZ h0 hq11) vx_RX12_101 h0 rfl rfl (by decide) (Nat.le_of_ble_eq_true rfl) (fun hp12 => ?_)
        change G Z C a10.2.2 57 [(7, .int a10.1), (6, .int a2.1), (5, .int a10.2.1), (0, .ref (za Z i0)), (1, .int p1), (2, .int p2), (3, .int p3), (4, .int p4)] [.int q11, .int a10.1]
        refine g_iconst O dX12_byGroup_57 (3 : Int32) (by decide) ?_
        refine g_jn (fun (y13 : Int32) => G Z C a10.2.2 66 [(7, .int a10.1), (6, .int a2.1), (5, .int a10.2.1), (0, .ref (za Z i0)), (1, .int p1), (2, .int p2), (3, .int p3), (4, .int p4)] [.int y13, .int a10.1]) hf (fun y13 hf => ?_) (fun k13 hk13 hf => ?_)
        · refine g_icmp_ge 112 O dX12_byGroup_66 (by decide) hf (fun c14 hf => ?_) (fun c14 hf => ?_)
          · have hf := hX10 _ hf
            refine g_iinc O dX12_byGroup_112 1 rfl (by decide) (1) (by decide) (fun y => [(6, .int y), (7, .int a10.1), (5, .int a10.2.1), (0, .ref (za Z i0)), (1, .int p1), (2, .int p2), (3, .int p3), (4, .int p4)]) (fun _ => rfl) hf (fun x15 hf => ?_)
            refine g_goto 16 O dX12_byGroup_115 (by decide) ?_
            refine g_sub [0, 2, 3, 4, 5, 6, 7] rfl ?_
            exact hI2 _ hf
          · refine g_aload_n O dX12_byGroup_69 3 rfl rfl ?_
            refine g_iload_n O dX12_byGroup_70 4 rfl rfl ?_
            refine g_iload_n O dX12_byGroup_71 5 rfl rfl ?_
            refine g_iload O dX12_byGroup_72 1 rfl ?_
            refine g_iload O dX12_byGroup_74 0 rfl ?_
            refine g_iload_n O dX12_byGroup_76 6 rfl rfl ?_
            refine g_iload O dX12_byGroup_77 7 rfl ?_
            obtain ⟨q16, hq16, hf⟩ := k_obd hN10 hf
            refine g_callV (rest := []) O dX12_byGroup_79 (ct_X12_byNoun hZ h0 hq16) vx_RX12_218 h0 rfl rfl (by decide) (Nat.le_of_ble_eq_true rfl) (fun hp17 => ?_)
            change G Z C q16.2 82 [(7, .int a10.1), (6, .int a2.1), (5, .int a10.2.1), (0, .ref (za Z i0)), (1, .int p1), (2, .int p2), (3, .int p3), (4, .int p4)] [.int q16.1]
            refine g_istoreP O dX12_byGroup_82 (by decide) [(8, .int q16.1), (7, .int a10.1), (6, .int a2.1), (5, .int a10.2.1), (0, .ref (za Z i0)), (1, .int p1), (2, .int p2), (3, .int p3), (4, .int p4)] rfl ?_
            refine g_iload O dX12_byGroup_84 8 rfl ?_
            refine g_if_eq 99 O dX12_byGroup_86 (by decide) hf (fun c18 hf => ?_) (fun c18 hf => ?_)
            · refine g_iload O dX12_byGroup_99 3 rfl ?_
              refine g_iload O dX12_byGroup_101 0 rfl ?_
              refine g_iadd O dX12_byGroup_103 ?_
              refine g_istore O dX12_byGroup_104 (by decide) (fun y => [(5, .int y), (8, .int q16.1), (7, .int a10.1), (6, .int a2.1), (0, .ref (za Z i0)), (1, .int p1), (2, .int p2), (3, .int p3), (4, .int p4)]) (fun _ => rfl) hf (fun x19 hf => ?_)
              refine g_iinc O dX12_byGroup_106 2 rfl (by decide) (1) (by decide) (fun y => [(7, .int y), (5, .int x19), (8, .int q16.1), (6, .int a2.1), (0, .ref (za Z i0)), (1, .int p1), (2, .int p2), (3, .int p3), (4, .int p4)]) (fun _ => rfl) hf (fun x20 hf => ?_)
              refine g_goto 49 O dX12_byGroup_109 (by decide) ?_
              refine g_sub [0, 3, 1, 4, 5, 6, 7, 8] rfl ?_
              exact hI10 _ hf
            · refine g_iload O dX12_byGroup_89 3 rfl ?_
              refine g_iload O dX12_byGroup_91 0 rfl ?_
              refine g_mmin O dX12_byGroup_93 lm_RX12_140 mm_min.1 mm_min.2.1 mm_min.2.2 (by decide) (Nat.le_of_ble_eq_true rfl) ?_
              refine g_goto 104 O dX12_byGroup_96 (by decide) ?_
              refine g_istore O dX12_byGroup_104 (by decide) (fun y => [(5, .int y), (8, .int q16.1), (7, .int a10.1), (6, .int a2.1), (0, .ref (za Z i0)), (1, .int p1), (2, .int p2), (3, .int p3), (4, .int p4)]) (fun _ => rfl) hf (fun x21 hf => ?_)
              refine g_iinc O dX12_byGroup_106 2 rfl (by decide) (1) (by decide) (fun y => [(7, .int y), (5, .int x21), (8, .int q16.1), (6, .int a2.1), (0, .ref (za Z i0)), (1, .int p1), (2, .int p2), (3, .int p3), (4, .int p4)]) (fun _ => rfl) hf (fun x22 hf => ?_)
              refine g_goto 49 O dX12_byGroup_109 (by decide) ?_
              refine g_sub [0, 3, 1, 4, 5, 6, 7, 8] rfl ?_
              exact hI10 _ hf
        · skip
          refine g_icmp_ne 65 O dX12_byGroup_58 (by decide) hf (fun c23 hf => ?_) (fun c23 hf => ?_)
          · refine g_iconst O dX12_byGroup_61 (1 : Int32) (by decide) ?_
            refine g_goto 66 O dX12_byGroup_62 (by decide) ?_
            exact hk13 _ hf
          · refine g_iconst O dX12_byGroup_65 (2 : Int32) (by decide) ?_
            exact hk13 _ hf
  · skip
    refine g_if_eq 10 O dX12_byGroup_2 (by decide) hf (fun c24 hf => ?_) (fun c24 hf => ?_)
    · refine g_iconst O dX12_byGroup_10 (0 : Int32) (by decide) ?_
      exact hk1 _ hf
    · refine g_ldc O dX12_byGroup_5 lc_RX12_207 ?_
      refine g_goto 11 O dX12_byGroup_7 (by decide) ?_
      exact hk1 _ hf

set_option maxHeartbeats 4000000 in
set_option maxRecDepth 100000 in
theorem ct_X12_byFrame {Z : ZT} (hZ : ZOk Z) {σ : Mem} {i0 : Nat} {p1 : Int32} {p2 : Int32} {p3 : Int32} (h0 : kn i0 = 12) {r : (Int32 × Mem)} (hf : fX12_byFrame σ i0 p1 p2 p3 = some r) : Ct Z yX12_byFrame cX12_byFrame 7 (some .int) 7 178 [.ref (za Z i0), .int p1, .int p2, .int p3] σ (some (.int r.1)) True r.2 := by
  refine ct_im hZ (by decide +kernel) (Nat.le_of_ble_eq_true rfl) hf (fun C K O hN hR hf => ?_)
  have O : Ok Z C RX12 cX12_byFrame 7 7 178 := O
  change G Z C σ 0 [(0, .ref (za Z i0)), (1, .int p1), (2, .int p2), (3, .int p3)] []
  unfold fX12_byFrame at hf
  refine g_iload_n O dX12_byFrame_0 3 rfl rfl ?_
  refine g_jn (fun (y1 : Int32) => G Z C σ 9 [(0, .ref (za Z i0)), (1, .int p1), (2, .int p2), (3, .int p3)] [.int y1]) hf (fun y1 hf => ?_) (fun k1 hk1 hf => ?_)
  · refine g_istoreP O dX12_byFrame_9 (by decide) [(4, .int y1), (0, .ref (za Z i0)), (1, .int p1), (2, .int p2), (3, .int p3)] rfl ?_
    refine g_iconst O dX12_byFrame_11 (0 : Int32) (by decide) ?_
    refine g_istoreP O dX12_byFrame_12 (by decide) [(5, .int (0 : Int32)), (4, .int y1), (0, .ref (za Z i0)), (1, .int p1), (2, .int p2), (3, .int p3)] rfl ?_
    refine g_lp hN (fun (a2 : Int32 × Int32 × Mem) => G Z C a2.2.2 14 [(5, .int a2.1), (4, .int a2.2.1), (0, .ref (za Z i0)), (1, .int p1), (2, .int p2), (3, .int p3)] []) hf (fun a2 _ hN2 hI2 hX2 hf => ?_)
    unfold sX12_byFrame_14 at hf
    refine g_iload O dX12_byFrame_14 0 rfl ?_
    refine g_aload_n O dX12_byFrame_16 2 rfl rfl ?_
    refine g_iload_n O dX12_byFrame_17 3 rfl rfl ?_
    obtain ⟨q3, hq3, hf⟩ := k_obd hN2 hf
    refine g_callV (rest := [.int a2.1]) O dX12_byFrame_18 (ct_X12_holes hZ h0 hq3) vx_RX12_154 h0 rfl rfl (by decide) (Nat.le_of_ble_eq_true rfl) (fun hp4 => ?_)
    change G Z C a2.2.2 21 [(5, .int a2.1), (4, .int a2.2.1), (0, .ref (za Z i0)), (1, .int p1), (2, .int p2), (3, .int p3)] [.int q3, .int a2.1]
    refine g_icmp_ge 122 O dX12_byFrame_21 (by decide) hf (fun c5 hf => ?_) (fun c5 hf => ?_)
    · have hf := hX2 _ hf
      refine g_iload O dX12_byFrame_122 1 rfl ?_
      exact hR _ _ hf _ _ dX12_byFrame_124
    · refine g_aload_n O dX12_byFrame_24 2 rfl rfl ?_
      refine g_iload_n O dX12_byFrame_25 3 rfl rfl ?_
      refine g_iload O dX12_byFrame_26 0 rfl ?_
      refine g_iconst O dX12_byFrame_28 (0 : Int32) (by decide) ?_
      obtain ⟨q6, hq6, hf⟩ := k_obd hN2 hf
      refine g_callV (rest := []) O dX12_byFrame_29 (ct_X12_ofHole hZ h0 hq6) vx_RX12_115 h0 rfl rfl (by decide) (Nat.le_of_ble_eq_true rfl) (fun hp7 => ?_)
      change G Z C a2.2.2 32 [(5, .int a2.1), (4, .int a2.2.1), (0, .ref (za Z i0)), (1, .int p1), (2, .int p2), (3, .int p3)] [.int q6]
      refine g_bipush O dX12_byFrame_32 (110 : Int32) (by decide) ?_
      refine g_jn (fun (y8 : Unit) => G Z C a2.2.2 53 [(5, .int a2.1), (4, .int a2.2.1), (0, .ref (za Z i0)), (1, .int p1), (2, .int p2), (3, .int p3)] []) hf (fun y8 hf => ?_) (fun k8 hk8 hf => ?_)
      · refine g_aload_n O dX12_byFrame_53 2 rfl rfl ?_
        refine g_iload_n O dX12_byFrame_54 3 rfl rfl ?_
        refine g_iload O dX12_byFrame_55 0 rfl ?_
        refine g_iconst O dX12_byFrame_57 (0 : Int32) (by decide) ?_
        obtain ⟨q9, hq9, hf⟩ := k_obd hN2 hf
        refine g_callV (rest := []) O dX12_byFrame_58 (ct_X12_ofHole hZ h0 hq9) vx_RX12_115 h0 rfl rfl (by decide) (Nat.le_of_ble_eq_true rfl) (fun hp10 => ?_)
        change G Z C a2.2.2 61 [(5, .int a2.1), (4, .int a2.2.1), (0, .ref (za Z i0)), (1, .int p1), (2, .int p2), (3, .int p3)] [.int q9]
        refine g_bipush O dX12_byFrame_61 (112 : Int32) (by decide) ?_
        refine g_jn (fun (y11 : Int32 × Mem) => G Z C y11.2 95 [(5, .int a2.1), (4, .int a2.2.1), (0, .ref (za Z i0)), (1, .int p1), (2, .int p2), (3, .int p3)] [.int y11.1]) hf (fun y11 hf => ?_) (fun k11 hk11 hf => ?_)
        · refine g_istoreP O dX12_byFrame_95 (by decide) [(6, .int y11.1), (5, .int a2.1), (4, .int a2.2.1), (0, .ref (za Z i0)), (1, .int p1), (2, .int p2), (3, .int p3)] rfl ?_
          refine g_iload_n O dX12_byFrame_97 6 rfl rfl ?_
          refine g_if_eq 109 O dX12_byFrame_98 (by decide) hf (fun c12 hf => ?_) (fun c12 hf => ?_)
          · refine g_iload O dX12_byFrame_109 2 rfl ?_
            refine g_iload O dX12_byFrame_111 0 rfl ?_
            refine g_imul O dX12_byFrame_113 ?_
            refine g_istore O dX12_byFrame_114 (by decide) (fun y => [(4, .int y), (6, .int y11.1), (5, .int a2.1), (0, .ref (za Z i0)), (1, .int p1), (2, .int p2), (3, .int p3)]) (fun _ => rfl) hf (fun x13 hf => ?_)
            refine g_iinc O dX12_byFrame_116 2 rfl (by decide) (1) (by decide) (fun y => [(5, .int y), (4, .int x13), (6, .int y11.1), (0, .ref (za Z i0)), (1, .int p1), (2, .int p2), (3, .int p3)]) (fun _ => rfl) hf (fun x14 hf => ?_)
            refine g_goto 14 O dX12_byFrame_119 (by decide) ?_
            refine g_sub [0, 1, 3, 4, 5, 6] rfl ?_
            exact hI2 _ hf
          · refine g_iload O dX12_byFrame_101 2 rfl ?_
            refine g_iload O dX12_byFrame_103 0 rfl ?_
            refine g_iadd O dX12_byFrame_105 ?_
            refine g_goto 114 O dX12_byFrame_106 (by decide) ?_
            refine g_istore O dX12_byFrame_114 (by decide) (fun y => [(4, .int y), (6, .int y11.1), (5, .int a2.1), (0, .ref (za Z i0)), (1, .int p1), (2, .int p2), (3, .int p3)]) (fun _ => rfl) hf (fun x15 hf => ?_)
            refine g_iinc O dX12_byFrame_116 2 rfl (by decide) (1) (by decide) (fun y => [(5, .int y), (4, .int x15), (6, .int y11.1), (0, .ref (za Z i0)), (1, .int p1), (2, .int p2), (3, .int p3)]) (fun _ => rfl) hf (fun x16 hf => ?_)
            refine g_goto 14 O dX12_byFrame_119 (by decide) ?_
            refine g_sub [0, 1, 3, 4, 5, 6] rfl ?_
            exact hI2 _ hf
        · skip
          refine g_icmp_ne 80 O dX12_byFrame_63 (by decide) hf (fun c17 hf => ?_) (fun c17 hf => ?_)
          · refine g_aload_n O dX12_byFrame_66 2 rfl rfl ?_
            refine g_iload_n O dX12_byFrame_67 3 rfl rfl ?_
            refine g_iload O dX12_byFrame_68 0 rfl ?_
            refine g_iconst O dX12_byFrame_70 (0 : Int32) (by decide) ?_
            refine g_iconst O dX12_byFrame_71 (0 : Int32) (by decide) ?_
            refine g_iconst O dX12_byFrame_72 (0 : Int32) (by decide) ?_
            refine g_iload_n O dX12_byFrame_73 5 rfl rfl ?_
            obtain ⟨q18, hq18, hf⟩ := k_obd hN2 hf
            refine g_callV (rest := []) O dX12_byFrame_74 (ct_X12_atHole hZ h0 hq18) vx_RX12_214 h0 rfl rfl (by decide) (Nat.le_of_ble_eq_true rfl) (fun hp19 => ?_)
            change G Z C q18.2 77 [(5, .int a2.1), (4, .int a2.2.1), (0, .ref (za Z i0)), (1, .int p1), (2, .int p2), (3, .int p3)] [.int q18.1]
            refine g_goto 95 O dX12_byFrame_77 (by decide) ?_
            exact hk11 _ hf
          · refine g_aload_n O dX12_byFrame_80 2 rfl rfl ?_
            refine g_iload_n O dX12_byFrame_81 3 rfl rfl ?_
            refine g_aload_n O dX12_byFrame_82 2 rfl rfl ?_
            refine g_iload_n O dX12_byFrame_83 3 rfl rfl ?_
            refine g_iload O dX12_byFrame_84 0 rfl ?_
            refine g_iconst O dX12_byFrame_86 (1 : Int32) (by decide) ?_
            obtain ⟨q20, hq20, hf⟩ := k_obd hN2 hf
            refine g_callV (rest := [.int p1, .ref (za Z i0)]) O dX12_byFrame_87 (ct_X12_ofHole hZ h0 hq20) vx_RX12_115 h0 rfl rfl (by decide) (Nat.le_of_ble_eq_true rfl) (fun hp21 => ?_)
            change G Z C a2.2.2 90 [(5, .int a2.1), (4, .int a2.2.1), (0, .ref (za Z i0)), (1, .int p1), (2, .int p2), (3, .int p3)] [.int q20, .int p1, .ref (za Z i0)]
            refine g_iload_n O dX12_byFrame_90 4 rfl rfl ?_
            refine g_iload_n O dX12_byFrame_91 5 rfl rfl ?_
            obtain ⟨q22, hq22, hf⟩ := k_obd hN2 hf
            refine g_callV (rest := []) O dX12_byFrame_92 (ct_X12_byGroup hZ h0 hq22) vx_RX12_221 h0 rfl rfl (by decide) (Nat.le_of_ble_eq_true rfl) (fun hp23 => ?_)
            change G Z C q22.2 95 [(5, .int a2.1), (4, .int a2.2.1), (0, .ref (za Z i0)), (1, .int p1), (2, .int p2), (3, .int p3)] [.int q22.1]
            exact hk11 _ hf
      · skip
        refine g_icmp_eq 53 O dX12_byFrame_34 (by decide) hf (fun c24 hf => ?_) (fun c24 hf => ?_)
        · exact hk8 _ hf
        · refine g_aload_n O dX12_byFrame_37 2 rfl rfl ?_
          refine g_iload_n O dX12_byFrame_38 3 rfl rfl ?_
          refine g_iload O dX12_byFrame_39 0 rfl ?_
          refine g_iconst O dX12_byFrame_41 (0 : Int32) (by decide) ?_
          obtain ⟨q25, hq25, hf⟩ := k_obd hN2 hf
          refine g_callV (rest := []) O dX12_byFrame_42 (ct_X12_ofHole hZ h0 hq25) vx_RX12_115 h0 rfl rfl (by decide) (Nat.le_of_ble_eq_true rfl) (fun hp26 => ?_)
          change G Z C a2.2.2 45 [(5, .int a2.1), (4, .int a2.2.1), (0, .ref (za Z i0)), (1, .int p1), (2, .int p2), (3, .int p3)] [.int q25]
          refine g_bipush O dX12_byFrame_45 (112 : Int32) (by decide) ?_
          refine g_icmp_eq 53 O dX12_byFrame_47 (by decide) hf (fun c27 hf => ?_) (fun c27 hf => ?_)
          · exact hk8 _ hf
          · refine g_goto 116 O dX12_byFrame_50 (by decide) ?_
            refine g_iinc O dX12_byFrame_116 0 rfl (by decide) (1) (by decide) (fun y => [(5, .int y), (4, .int a2.2.1), (0, .ref (za Z i0)), (1, .int p1), (2, .int p2), (3, .int p3)]) (fun _ => rfl) hf (fun x28 hf => ?_)
            refine g_goto 14 O dX12_byFrame_119 (by decide) ?_
            exact hI2 _ hf
  · skip
    refine g_if_eq 8 O dX12_byFrame_1 (by decide) hf (fun c29 hf => ?_) (fun c29 hf => ?_)
    · refine g_iconst O dX12_byFrame_8 (1 : Int32) (by decide) ?_
      exact hk1 _ hf
    · refine g_iconst O dX12_byFrame_4 (0 : Int32) (by decide) ?_
      refine g_goto 9 O dX12_byFrame_5 (by decide) ?_
      exact hk1 _ hf

set_option maxHeartbeats 4000000 in
set_option maxRecDepth 100000 in
theorem ct_X12_counted {Z : ZT} (hZ : ZOk Z) {σ : Mem} {i0 : Nat} (h0 : kn i0 = 12) {r : (Int32 × Mem)} (hf : fX12_counted σ i0 = some r) : Ct Z yX12_counted cX12_counted 5 (some .int) 8 204 [.ref (za Z i0)] σ (some (.int r.1)) True r.2 := by
  refine ct_im hZ (by decide +kernel) (Nat.le_of_ble_eq_true rfl) hf (fun C K O hN hR hf => ?_)
  have O : Ok Z C RX12 cX12_counted 5 8 204 := O
  change G Z C σ 0 [(0, .ref (za Z i0))] []
  unfold fX12_counted at hf
  refine g_iconst O dX12_counted_0 (0 : Int32) (by decide) ?_
  refine g_istore_nP O dX12_counted_1 rfl (by decide) [(1, .int (0 : Int32)), (0, .ref (za Z i0))] rfl ?_
  refine g_aload_n O dX12_counted_2 1 rfl rfl ?_
  refine g_iconst O dX12_counted_3 (-1 : Int32) (by decide) ?_
  refine g_putI O dX12_counted_4 fp_RX12_225 h0 hf (fun m1 hf => ?_)
  refine g_aload_n O dX12_counted_7 1 rfl rfl ?_
  refine g_iconst O dX12_counted_8 (-1 : Int32) (by decide) ?_
  refine g_putI O dX12_counted_9 fp_RX12_228 h0 hf (fun m2 hf => ?_)
  refine g_aload_n O dX12_counted_12 1 rfl rfl ?_
  obtain ⟨q3, hq3, hf⟩ := k_obd hN hf
  refine g_callV (rest := []) O dX12_counted_13 (ct_X12_parts hZ h0 hq3) vx_RX12_231 h0 rfl rfl (by decide) (Nat.le_of_ble_eq_true rfl) (fun hp4 => ?_)
  change G Z C q3 16 [(1, .int (0 : Int32)), (0, .ref (za Z i0))] []
  refine g_iconst O dX12_counted_16 (0 : Int32) (by decide) ?_
  refine g_istore_nP O dX12_counted_17 rfl (by decide) [(2, .int (0 : Int32)), (1, .int (0 : Int32)), (0, .ref (za Z i0))] rfl ?_
  refine g_lp hN (fun (a5 : Int32 × Int32 × Mem) => G Z C a5.2.2 18 [(2, .int a5.1), (1, .int a5.2.1), (0, .ref (za Z i0))] []) hf (fun a5 _ hN5 hI5 hX5 hf => ?_)
  unfold sX12_counted_18 at hf
  refine g_iload_n O dX12_counted_18 0 rfl rfl ?_
  refine g_aload_n O dX12_counted_19 2 rfl rfl ?_
  refine g_getR O dX12_counted_20 fx_RX12_9 h0 ?_
  refine g_iconst O dX12_counted_23 (1 : Int32) (by decide) ?_
  refine g_iald O hN5 dX12_counted_24 (kf_12_0 h0) hf (fun hf => ?_)
  refine g_icmp_ge 95 O dX12_counted_25 (by decide) hf (fun c6 hf => ?_) (fun c6 hf => ?_)
  · have hf := hX5 _ hf
    refine g_iload_n O dX12_counted_95 1 rfl rfl ?_
    exact hR _ _ hf _ _ dX12_counted_96
  · refine g_aload_n O dX12_counted_28 2 rfl rfl ?_
    refine g_iload_n O dX12_counted_29 0 rfl rfl ?_
    obtain ⟨q7, hq7, hf⟩ := k_obd hN5 hf
    refine g_callV (rest := []) O dX12_counted_30 (ct_X12_holes hZ h0 hq7) vx_RX12_154 h0 rfl rfl (by decide) (Nat.le_of_ble_eq_true rfl) (fun hp8 => ?_)
    change G Z C a5.2.2 33 [(2, .int a5.1), (1, .int a5.2.1), (0, .ref (za Z i0))] [.int q7]
    refine g_aload_n O dX12_counted_33 2 rfl rfl ?_
    refine g_getI O dX12_counted_34 fx_RX12_204 h0 ?_
    refine g_icmp_eq 43 O dX12_counted_37 (by decide) hf (fun c9 hf => ?_) (fun c9 hf => ?_)
    · refine g_iconst O dX12_counted_43 (0 : Int32) (by decide) ?_
      refine g_istore_nP O dX12_counted_44 rfl (by decide) [(3, .int (0 : Int32)), (2, .int a5.1), (1, .int a5.2.1), (0, .ref (za Z i0))] rfl ?_
      refine g_lp hN5 (fun (a10 : Int32 × Int32 × Mem) => G Z C a10.2.2 45 [(3, .int a10.1), (2, .int a5.1), (1, .int a10.2.1), (0, .ref (za Z i0))] []) hf (fun a10 _ hN10 hI10 hX10 hf => ?_)
      unfold sX12_counted_45 at hf
      refine g_iload_n O dX12_counted_45 0 rfl rfl ?_
      refine g_iconst O dX12_counted_46 (4 : Int32) (by decide) ?_
      refine g_icmp_ge 89 O dX12_counted_47 (by decide) hf (fun c11 hf => ?_) (fun c11 hf => ?_)
      · have hf := hX10 _ hf
        refine g_iinc O dX12_counted_89 1 rfl (by decide) (1) (by decide) (fun y => [(2, .int y), (3, .int a10.1), (1, .int a10.2.1), (0, .ref (za Z i0))]) (fun _ => rfl) hf (fun x12 hf => ?_)
        refine g_goto 18 O dX12_counted_92 (by decide) ?_
        refine g_sub [0, 2, 3] rfl ?_
        exact hI5 _ hf
      · refine g_aload_n O dX12_counted_50 3 rfl rfl ?_
        refine g_iload_n O dX12_counted_51 1 rfl rfl ?_
        refine g_iload_n O dX12_counted_52 0 rfl rfl ?_
        refine g_iconst O dX12_counted_53 (0 : Int32) (by decide) ?_
        obtain ⟨q13, hq13, hf⟩ := k_obd hN10 hf
        refine g_callV (rest := []) O dX12_counted_54 (ct_X12_byFrame hZ h0 hq13) vx_RX12_234 h0 rfl rfl (by decide) (Nat.le_of_ble_eq_true rfl) (fun hp14 => ?_)
        change G Z C q13.2 57 [(3, .int a10.1), (2, .int a5.1), (1, .int a10.2.1), (0, .ref (za Z i0))] [.int q13.1]
        refine g_istoreP O dX12_counted_57 (by decide) [(4, .int q13.1), (3, .int a10.1), (2, .int a5.1), (1, .int a10.2.1), (0, .ref (za Z i0))] rfl ?_
        refine g_iload O dX12_counted_59 0 rfl ?_
        refine g_if_le 78 O dX12_counted_61 (by decide) hf (fun c15 hf => ?_) (fun c15 hf => ?_)
        · refine g_iload_n O dX12_counted_78 3 rfl rfl ?_
          refine g_iload O dX12_counted_79 0 rfl ?_
          refine g_iadd O dX12_counted_81 ?_
          refine g_istore_n O dX12_counted_82 rfl (by decide) (fun y => [(1, .int y), (4, .int q13.1), (3, .int a10.1), (2, .int a5.1), (0, .ref (za Z i0))]) (fun _ => rfl) hf (fun x16 hf => ?_)
          refine g_iinc O dX12_counted_83 2 rfl (by decide) (1) (by decide) (fun y => [(3, .int y), (1, .int x16), (4, .int q13.1), (2, .int a5.1), (0, .ref (za Z i0))]) (fun _ => rfl) hf (fun x17 hf => ?_)
          refine g_goto 45 O dX12_counted_86 (by decide) ?_
          refine g_sub [0, 3, 1, 4] rfl ?_
          exact hI10 _ hf
        · refine g_iload_n O dX12_counted_64 3 rfl rfl ?_
          refine g_if_ne 78 O dX12_counted_65 (by decide) hf (fun c18 hf => ?_) (fun c18 hf => ?_)
          · refine g_aload_n O dX12_counted_68 4 rfl rfl ?_
            refine g_iload_n O dX12_counted_69 2 rfl rfl ?_
            refine g_putI O dX12_counted_70 fp_RX12_225 h0 hf (fun m19 hf => ?_)
            refine g_aload_n O dX12_counted_73 4 rfl rfl ?_
            refine g_iload_n O dX12_counted_74 1 rfl rfl ?_
            refine g_putI O dX12_counted_75 fp_RX12_228 h0 hf (fun m20 hf => ?_)
            refine g_iload_n O dX12_counted_78 3 rfl rfl ?_
            refine g_iload O dX12_counted_79 0 rfl ?_
            refine g_iadd O dX12_counted_81 ?_
            refine g_istore_n O dX12_counted_82 rfl (by decide) (fun y => [(1, .int y), (4, .int q13.1), (3, .int a10.1), (2, .int a5.1), (0, .ref (za Z i0))]) (fun _ => rfl) hf (fun x21 hf => ?_)
            refine g_iinc O dX12_counted_83 2 rfl (by decide) (1) (by decide) (fun y => [(3, .int y), (1, .int x21), (4, .int q13.1), (2, .int a5.1), (0, .ref (za Z i0))]) (fun _ => rfl) hf (fun x22 hf => ?_)
            refine g_goto 45 O dX12_counted_86 (by decide) ?_
            refine g_sub [0, 3, 1, 4] rfl ?_
            exact hI10 _ hf
          · refine g_iload_n O dX12_counted_78 3 rfl rfl ?_
            refine g_iload O dX12_counted_79 0 rfl ?_
            refine g_iadd O dX12_counted_81 ?_
            refine g_istore_n O dX12_counted_82 rfl (by decide) (fun y => [(1, .int y), (4, .int q13.1), (3, .int a10.1), (2, .int a5.1), (0, .ref (za Z i0))]) (fun _ => rfl) hf (fun x23 hf => ?_)
            refine g_iinc O dX12_counted_83 2 rfl (by decide) (1) (by decide) (fun y => [(3, .int y), (1, .int x23), (4, .int q13.1), (2, .int a5.1), (0, .ref (za Z i0))]) (fun _ => rfl) hf (fun x24 hf => ?_)
            refine g_goto 45 O dX12_counted_86 (by decide) ?_
            refine g_sub [0, 3, 1, 4] rfl ?_
            exact hI10 _ hf
    · refine g_goto 89 O dX12_counted_40 (by decide) ?_
      refine g_iinc O dX12_counted_89 0 rfl (by decide) (1) (by decide) (fun y => [(2, .int y), (1, .int a5.2.1), (0, .ref (za Z i0))]) (fun _ => rfl) hf (fun x25 hf => ?_)
      refine g_goto 18 O dX12_counted_92 (by decide) ?_
      exact hI5 _ hf

