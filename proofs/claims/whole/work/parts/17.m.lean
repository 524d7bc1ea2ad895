set_option maxHeartbeats 4000000 in
set_option maxRecDepth 100000 in
theorem ct_X12_readsFrame {Z : ZT} (hZ : ZOk Z) {σ : Mem} {i0 : Nat} {p1 : Int32} (h0 : kn i0 = 12) {r : Mem} (hf : fX12_readsFrame σ i0 p1 = some r) : Ct Z yX12_readsFrame cX12_readsFrame 9 none 4 91 [.ref (za Z i0), .int p1] σ none True r := by
  refine ct_v hZ (by decide +kernel) (Nat.le_of_ble_eq_true rfl) hf (fun C K O hN hR hf => ?_)
  have O : Ok Z C RX12 cX12_readsFrame 9 4 91 := O
  change G Z C σ 0 [(0, .ref (za Z i0)), (1, .int p1)] []
  unfold fX12_readsFrame at hf
  refine g_iconst O dX12_readsFrame_0 (0 : Int32) (by decide) ?_
  refine g_istore_nP O dX12_readsFrame_1 rfl (by decide) [(2, .int (0 : Int32)), (0, .ref (za Z i0)), (1, .int p1)] rfl ?_
  refine g_iconst O dX12_readsFrame_2 (0 : Int32) (by decide) ?_
  refine g_istore_nP O dX12_readsFrame_3 rfl (by decide) [(3, .int (0 : Int32)), (2, .int (0 : Int32)), (0, .ref (za Z i0)), (1, .int p1)] rfl ?_
  refine g_iconst O dX12_readsFrame_4 (0 : Int32) (by decide) ?_
  refine g_istoreP O dX12_readsFrame_5 (by decide) [(4, .int (0 : Int32)), (3, .int (0 : Int32)), (2, .int (0 : Int32)), (0, .ref (za Z i0)), (1, .int p1)] rfl ?_
  refine g_iconst O dX12_readsFrame_7 (0 : Int32) (by decide) ?_
  refine g_istoreP O dX12_readsFrame_8 (by decide) [(5, .int (0 : Int32)), (4, .int (0 : Int32)), (3, .int (0 : Int32)), (2, .int (0 : Int32)), (0, .ref (za Z i0)), (1, .int p1)] rfl ?_
  refine g_aload_n O dX12_readsFrame_10 4 rfl rfl ?_
  refine g_iconst O dX12_readsFrame_11 (-1 : Int32) (by decide) ?_
  refine g_putI O dX12_readsFrame_12 fp_RX12_127 h0 hf (fun m1 hf => ?_)
  refine g_lp hN (fun (a2 : Int32 × Int32 × Int32 × Int32 × Mem) => G Z C a2.2.2.2.2 15 [(5, .int a2.1), (4, .int a2.2.1), (3, .int a2.2.2.1), (2, .int a2.2.2.2.1), (0, .ref (za Z i0)), (1, .int p1)] []) hf (fun a2 _ hN2 hI2 hX2 hf => ?_)
  unfold sX12_readsFrame_15 at hf
  refine g_iload_n O dX12_readsFrame_15 2 rfl rfl ?_
  refine g_aload_n O dX12_readsFrame_16 4 rfl rfl ?_
  refine g_getI O dX12_readsFrame_17 fx_RX12_72 h0 ?_
  refine g_jn (fun (y3 : Unit) => G Z C a2.2.2.2.2 169 [(5, .int a2.1), (4, .int a2.2.1), (2, .int a2.2.2.2.1), (0, .ref (za Z i0)), (1, .int p1)] []) hf (fun y3 hf => ?_) (fun k3 hk3 hf => ?_)
  · have hf := hX2 _ hf
    refine g_aload_n O dX12_readsFrame_169 3 rfl rfl ?_
    refine g_getR O dX12_readsFrame_170 fx_RX12_9 h0 ?_
    refine g_iload_n O dX12_readsFrame_173 4 rfl rfl ?_
    refine g_iload_n O dX12_readsFrame_174 2 rfl rfl ?_
    refine g_iast O hN dX12_readsFrame_175 (kf_12_0 h0) hf (fun m4 hf => ?_)
    refine g_iload_n O dX12_readsFrame_176 2 rfl rfl ?_
    refine g_jn (fun (y5 : Unit) => G Z C m4 187 [(0, .ref (za Z i0))] []) hf (fun y5 hf => ?_) (fun k5 hk5 hf => ?_)
    · refine g_aload_n O dX12_readsFrame_187 0 rfl rfl ?_
      refine g_aload_n O dX12_readsFrame_188 0 rfl rfl ?_
      refine g_getI O dX12_readsFrame_189 fx_RX12_72 h0 ?_
      refine g_putI O dX12_readsFrame_192 fp_RX12_127 h0 hf (fun m6 hf => ?_)
      exact hR _ hf _ _ dX12_readsFrame_195
    · skip
      refine g_if_eq 187 O dX12_readsFrame_177 (by decide) hf (fun c7 hf => ?_) (fun c7 hf => ?_)
      · refine g_sub [3] rfl ?_
        exact hk5 _ hf
      · refine g_iload O dX12_readsFrame_180 0 rfl ?_
        refine g_iload O dX12_readsFrame_182 1 rfl ?_
        refine g_icmp_eq 195 O dX12_readsFrame_184 (by decide) hf (fun c8 hf => ?_) (fun c8 hf => ?_)
        · exact hR _ hf _ _ dX12_readsFrame_195
        · refine g_sub [3] rfl ?_
          exact hk5 _ hf
  · skip
    refine g_icmp_ge 169 O dX12_readsFrame_20 (by decide) hf (fun c9 hf => ?_) (fun c9 hf => ?_)
    · refine g_sub [0, 1, 3, 4, 5] rfl ?_
      exact hk3 _ hf
    · refine g_aload_n O dX12_readsFrame_23 4 rfl rfl ?_
      refine g_getI O dX12_readsFrame_24 fx_RX12_127 h0 ?_
      refine g_if_ge 169 O dX12_readsFrame_27 (by decide) hf (fun c10 hf => ?_) (fun c10 hf => ?_)
      · refine g_sub [0, 1, 3, 4, 5] rfl ?_
        exact hk3 _ hf
      · refine g_aload_n O dX12_readsFrame_30 4 rfl rfl ?_
        refine g_iload_n O dX12_readsFrame_31 2 rfl rfl ?_
        obtain ⟨q11, hq11, hf⟩ := k_obd hN2 hf
        refine g_callV (rest := []) O dX12_readsFrame_32 (ct_X12_here hZ h0 hq11) vx_RX12_118 h0 rfl rfl (by decide) (Nat.le_of_ble_eq_true rfl) (fun hp12 => ?_)
        change G Z C a2.2.2.2.2 35 [(5, .int a2.1), (4, .int a2.2.1), (3, .int a2.2.2.1), (2, .int a2.2.2.2.1), (0, .ref (za Z i0)), (1, .int p1)] [.int q11]
        refine g_istoreP O dX12_readsFrame_35 (by decide) [(6, .int q11), (5, .int a2.1), (4, .int a2.2.1), (3, .int a2.2.2.1), (2, .int a2.2.2.2.1), (0, .ref (za Z i0)), (1, .int p1)] rfl ?_
        refine g_iload O dX12_readsFrame_37 0 rfl ?_
        obtain ⟨q13, hq13, hf⟩ := k_obd hN2 hf
        refine g_callS (rest := []) O dX12_readsFrame_39 (ct_X12_isBlank hZ  hq13) sx_RX12_133 rfl rfl (by decide) (Nat.le_of_ble_eq_true rfl) (fun hp14 => ?_)
        change G Z C a2.2.2.2.2 42 [(6, .int q11), (5, .int a2.1), (4, .int a2.2.1), (3, .int a2.2.2.1), (2, .int a2.2.2.2.1), (0, .ref (za Z i0)), (1, .int p1)] [.int q13]
        refine g_if_eq 51 O dX12_readsFrame_42 (by decide) hf (fun c15 hf => ?_) (fun c15 hf => ?_)
        · refine g_iload_n O dX12_readsFrame_51 4 rfl rfl ?_
          refine g_bipush O dX12_readsFrame_52 (6 : Int32) (by decide) ?_
          refine g_jn (fun (y16 : Unit) => G Z C a2.2.2.2.2 85 [(3, .int a2.2.2.1), (0, .ref (za Z i0))] []) hf (fun y16 hf => ?_) (fun k16 hk16 hf => ?_)
          · have hf := hX2 _ hf
            refine g_aload_n O dX12_readsFrame_85 1 rfl rfl ?_
            refine g_iload_n O dX12_readsFrame_86 0 rfl rfl ?_
            refine g_putI O dX12_readsFrame_87 fp_RX12_127 h0 hf (fun m17 hf => ?_)
            exact hR _ hf _ _ dX12_readsFrame_90
          · skip
            refine g_icmp_eq 85 O dX12_readsFrame_54 (by decide) hf (fun c18 hf => ?_) (fun c18 hf => ?_)
            · refine g_sub [3, 5] rfl ?_
              exact hk16 _ hf
            · refine g_iload O dX12_readsFrame_57 0 rfl ?_
              refine g_bipush O dX12_readsFrame_59 (110 : Int32) (by decide) ?_
              refine g_jn (fun (y19 : Unit) => G Z C a2.2.2.2.2 91 [(6, .int q11), (5, .int a2.1), (4, .int a2.2.1), (3, .int a2.2.2.1), (2, .int a2.2.2.2.1), (0, .ref (za Z i0)), (1, .int p1)] []) hf (fun y19 hf => ?_) (fun k19 hk19 hf => ?_)
              · refine g_iload_n O dX12_readsFrame_91 6 rfl rfl ?_
                refine g_iconst O dX12_readsFrame_92 (1 : Int32) (by decide) ?_
                refine g_iadd O dX12_readsFrame_93 ?_
                refine g_iconst O dX12_readsFrame_94 (4 : Int32) (by decide) ?_
                refine g_iload_n O dX12_readsFrame_95 4 rfl rfl ?_
                refine g_imul O dX12_readsFrame_96 ?_
                refine g_iadd O dX12_readsFrame_97 ?_
                refine g_istore O dX12_readsFrame_98 (by decide) (fun y => [(7, .int y), (6, .int q11), (5, .int a2.1), (4, .int a2.2.1), (3, .int a2.2.2.1), (2, .int a2.2.2.2.1), (0, .ref (za Z i0)), (1, .int p1)]) (fun _ => rfl) hf (fun x20 hf => ?_)
                refine g_aload_n O dX12_readsFrame_100 6 rfl rfl ?_
                refine g_iload O dX12_readsFrame_101 0 rfl ?_
                refine g_iload_n O dX12_readsFrame_103 4 rfl rfl ?_
                refine g_iload O dX12_readsFrame_104 3 rfl ?_
                obtain ⟨q21, hq21, hf⟩ := k_obd hN2 hf
                refine g_callV (rest := []) O dX12_readsFrame_106 (ct_X12_reads hZ h0 hq21) vx_RX12_136 h0 rfl rfl (by decide) (Nat.le_of_ble_eq_true rfl) (fun hp22 => ?_)
                change G Z C q21 109 [(7, .int x20), (6, .int q11), (5, .int a2.1), (4, .int a2.2.1), (3, .int a2.2.2.1), (2, .int a2.2.2.2.1), (0, .ref (za Z i0)), (1, .int p1)] []
                refine g_aload_n O dX12_readsFrame_109 6 rfl rfl ?_
                refine g_getI O dX12_readsFrame_110 fx_RX12_127 h0 ?_
                refine g_if_lt 117 O dX12_readsFrame_113 (by decide) hf (fun c23 hf => ?_) (fun c23 hf => ?_)
                · refine g_aload_n O dX12_readsFrame_117 6 rfl rfl ?_
                  refine g_getR O dX12_readsFrame_118 fx_RX12_9 h0 ?_
                  refine g_iload O dX12_readsFrame_121 0 rfl ?_
                  refine g_iconst O dX12_readsFrame_123 (1 : Int32) (by decide) ?_
                  refine g_iadd O dX12_readsFrame_124 ?_
                  refine g_iald O hN2 dX12_readsFrame_125 (kf_12_0 h0) hf (fun hf => ?_)
                  refine g_istore O dX12_readsFrame_126 (by decide) (fun y => [(8, .int y), (7, .int x20), (6, .int q11), (5, .int a2.1), (4, .int a2.2.1), (3, .int a2.2.2.1), (2, .int a2.2.2.2.1), (0, .ref (za Z i0)), (1, .int p1)]) (fun _ => rfl) hf (fun x24 hf => ?_)
                  refine g_iload O dX12_readsFrame_128 2 rfl ?_
                  refine g_bipush O dX12_readsFrame_130 (110 : Int32) (by decide) ?_
                  refine g_jn (fun (y25 : Int32) => G Z C q21 144 [(8, .int x24), (5, .int a2.1), (2, .int a2.2.2.2.1), (0, .ref (za Z i0)), (1, .int p1), (4, .int y25)] []) hf (fun y25 hf => ?_) (fun k25 hk25 hf => ?_)
                  · refine g_iload O dX12_readsFrame_144 0 rfl ?_
                    refine g_if_lt 158 O dX12_readsFrame_146 (by decide) hf (fun c26 hf => ?_) (fun c26 hf => ?_)
                    · refine g_iinc O dX12_readsFrame_158 2 rfl (by decide) (1) (by decide) (fun y => [(2, .int y), (8, .int x24), (5, .int a2.1), (0, .ref (za Z i0)), (1, .int p1), (4, .int y25)]) (fun _ => rfl) hf (fun x27 hf => ?_)
                      refine g_aload_n O dX12_readsFrame_161 3 rfl rfl ?_
                      refine g_getI O dX12_readsFrame_162 fx_RX12_121 h0 ?_
                      refine g_istore_n O dX12_readsFrame_165 rfl (by decide) (fun y => [(3, .int y), (2, .int x27), (8, .int x24), (5, .int a2.1), (0, .ref (za Z i0)), (1, .int p1), (4, .int y25)]) (fun _ => rfl) hf (fun x28 hf => ?_)
                      refine g_goto 15 O dX12_readsFrame_166 (by decide) ?_
                      refine g_sub [3, 6, 0, 1, 4, 5] rfl ?_
                      exact hI2 _ hf
                    · refine g_iload O dX12_readsFrame_149 1 rfl ?_
                      refine g_iconst O dX12_readsFrame_151 (1 : Int32) (by decide) ?_
                      refine g_iload O dX12_readsFrame_152 0 rfl ?_
                      refine g_ishl O dX12_readsFrame_154 ?_
                      refine g_ior O dX12_readsFrame_155 ?_
                      refine g_istore O dX12_readsFrame_156 (by decide) (fun y => [(5, .int y), (8, .int x24), (2, .int a2.2.2.2.1), (0, .ref (za Z i0)), (1, .int p1), (4, .int y25)]) (fun _ => rfl) hf (fun x29 hf => ?_)
                      refine g_iinc O dX12_readsFrame_158 2 rfl (by decide) (1) (by decide) (fun y => [(2, .int y), (5, .int x29), (8, .int x24), (0, .ref (za Z i0)), (1, .int p1), (4, .int y25)]) (fun _ => rfl) hf (fun x30 hf => ?_)
                      refine g_aload_n O dX12_readsFrame_161 3 rfl rfl ?_
                      refine g_getI O dX12_readsFrame_162 fx_RX12_121 h0 ?_
                      refine g_istore_n O dX12_readsFrame_165 rfl (by decide) (fun y => [(3, .int y), (2, .int x30), (5, .int x29), (8, .int x24), (0, .ref (za Z i0)), (1, .int p1), (4, .int y25)]) (fun _ => rfl) hf (fun x31 hf => ?_)
                      refine g_goto 15 O dX12_readsFrame_166 (by decide) ?_
                      refine g_sub [2, 6, 0, 1, 4, 5] rfl ?_
                      exact hI2 _ hf
                  · skip
                    refine g_icmp_ne 144 O dX12_readsFrame_132 (by decide) hf (fun c32 hf => ?_) (fun c32 hf => ?_)
                    · refine g_iload O dX12_readsFrame_135 4 rfl ?_
                      refine g_iconst O dX12_readsFrame_137 (1 : Int32) (by decide) ?_
                      refine g_iload O dX12_readsFrame_138 0 rfl ?_
                      refine g_ishl O dX12_readsFrame_140 ?_
                      refine g_ior O dX12_readsFrame_141 ?_
                      refine g_istore O dX12_readsFrame_142 (by decide) (fun y => [(4, .int y), (8, .int x24), (7, .int x20), (6, .int q11), (5, .int a2.1), (3, .int a2.2.2.1), (2, .int a2.2.2.2.1), (0, .ref (za Z i0)), (1, .int p1)]) (fun _ => rfl) hf (fun x33 hf => ?_)
                      refine g_sub [1, 4, 6, 7, 8, 0] rfl ?_
                      exact hk25 _ hf
                    · refine g_sub [0, 3, 6, 7, 8, 4] rfl ?_
                      exact hk25 _ hf
                · have hf := hX2 _ hf
                  exact hR _ hf _ _ dX12_readsFrame_116
              · skip
                refine g_icmp_eq 91 O dX12_readsFrame_61 (by decide) hf (fun c34 hf => ?_) (fun c34 hf => ?_)
                · exact hk19 _ hf
                · refine g_iload O dX12_readsFrame_64 0 rfl ?_
                  refine g_bipush O dX12_readsFrame_66 (118 : Int32) (by decide) ?_
                  refine g_icmp_eq 91 O dX12_readsFrame_68 (by decide) hf (fun c35 hf => ?_) (fun c35 hf => ?_)
                  · exact hk19 _ hf
                  · refine g_iload O dX12_readsFrame_71 0 rfl ?_
                    refine g_bipush O dX12_readsFrame_73 (102 : Int32) (by decide) ?_
                    refine g_icmp_eq 91 O dX12_readsFrame_75 (by decide) hf (fun c36 hf => ?_) (fun c36 hf => ?_)
                    · exact hk19 _ hf
                    · refine g_iload O dX12_readsFrame_78 0 rfl ?_
                      refine g_bipush O dX12_readsFrame_80 (112 : Int32) (by decide) ?_
                      refine g_icmp_eq 91 O dX12_readsFrame_82 (by decide) hf (fun c37 hf => ?_) (fun c37 hf => ?_)
                      · exact hk19 _ hf
                      · refine g_sub [3, 5] rfl ?_
                        exact hk16 _ hf
        · refine g_iinc O dX12_readsFrame_45 3 rfl (by decide) (1) (by decide) (fun y => [(3, .int y), (6, .int q11), (5, .int a2.1), (4, .int a2.2.1), (2, .int a2.2.2.2.1), (0, .ref (za Z i0)), (1, .int p1)]) (fun _ => rfl) hf (fun x38 hf => ?_)
          refine g_goto 15 O dX12_readsFrame_48 (by decide) ?_
          refine g_sub [2, 3, 0, 4, 5, 6] rfl ?_
          exact hI2 _ hf

set_option maxHeartbeats 4000000 in
set_option maxRecDepth 100000 in
theorem ct_X12_frame {Z : ZT} (hZ : ZOk Z) {σ : Mem} {i0 : Nat} (h0 : kn i0 = 12) {r : (Int32 × Mem)} (hf : fX12_frame σ i0 = some r) : Ct Z yX12_frame cX12_frame 4 (some .int) 5 119 [.ref (za Z i0)] σ (some (.int r.1)) True r.2 := by
  refine ct_im hZ (by decide +kernel) (Nat.le_of_ble_eq_true rfl) hf (fun C K O hN hR hf => ?_)
  have O : Ok Z C RX12 cX12_frame 4 5 119 := O
  change G Z C σ 0 [(0, .ref (za Z i0))] []
  unfold fX12_frame at hf
  refine g_aload_n O dX12_frame_0 0 rfl rfl ?_
  refine g_getR O dX12_frame_1 fx_RX12_9 h0 ?_
  refine g_iconst O dX12_frame_4 (1 : Int32) (by decide) ?_
  refine g_iald O hN dX12_frame_5 (kf_12_0 h0) hf (fun hf => ?_)
  refine g_istore_n O dX12_frame_6 rfl (by decide) (fun y => [(1, .int y), (0, .ref (za Z i0))]) (fun _ => rfl) hf (fun x1 hf => ?_)
  refine g_sipush O dX12_frame_7 (342 : Int32) (by decide) ?_
  refine g_bipush O dX12_frame_10 (25 : Int32) (by decide) ?_
  refine g_iload_n O dX12_frame_12 0 rfl rfl ?_
  refine g_iconst O dX12_frame_13 (4 : Int32) (by decide) ?_
  refine g_mmin O dX12_frame_14 lm_RX12_140 mm_min.1 mm_min.2.1 mm_min.2.2 (by decide) (Nat.le_of_ble_eq_true rfl) ?_
  refine g_imul O dX12_frame_17 ?_
  refine g_iadd O dX12_frame_18 ?_
  refine g_istore_n O dX12_frame_19 rfl (by decide) (fun y => [(2, .int y), (1, .int x1), (0, .ref (za Z i0))]) (fun _ => rfl) hf (fun x2 hf => ?_)
  refine g_iconst O dX12_frame_20 (0 : Int32) (by decide) ?_
  refine g_istore_nP O dX12_frame_21 rfl (by decide) [(3, .int (0 : Int32)), (2, .int x2), (1, .int x1), (0, .ref (za Z i0))] rfl ?_
  refine g_lp hN (fun (a3 : Int32 × Mem) => G Z C a3.2 22 [(3, .int a3.1), (2, .int x2), (1, .int x1), (0, .ref (za Z i0))] []) hf (fun a3 _ hN3 hI3 hX3 hf => ?_)
  unfold sX12_frame_22 at hf
  refine g_iload_n O dX12_frame_22 0 rfl rfl ?_
  refine g_bipush O dX12_frame_23 (25 : Int32) (by decide) ?_
  refine g_icmp_ge 48 O dX12_frame_25 (by decide) hf (fun c4 hf => ?_) (fun c4 hf => ?_)
  · have hf := hX3 _ hf
    refine g_aload_n O dX12_frame_48 3 rfl rfl ?_
    refine g_iload_n O dX12_frame_49 1 rfl rfl ?_
    obtain ⟨q5, hq5, hf⟩ := k_obd hN hf
    refine g_callV (rest := []) O dX12_frame_50 (ct_X12_readsFrame hZ h0 hq5) vx_RX12_145 h0 rfl rfl (by decide) (Nat.le_of_ble_eq_true rfl) (fun hp6 => ?_)
    change G Z C q5 53 [(3, .int a3.1), (2, .int x2), (1, .int x1), (0, .ref (za Z i0))] []
    refine g_aload_n O dX12_frame_53 3 rfl rfl ?_
    refine g_iconst O dX12_frame_54 (0 : Int32) (by decide) ?_
    refine g_putI O dX12_frame_55 fp_RX12_72 h0 hf (fun m7 hf => ?_)
    refine g_aload_n O dX12_frame_58 3 rfl rfl ?_
    refine g_getI O dX12_frame_59 fx_RX12_127 h0 ?_
    refine g_jn (fun (y8 : Unit) => G Z C m7 82 [(2, .int x2), (0, .ref (za Z i0))] []) hf (fun y8 hf => ?_) (fun k8 hk8 hf => ?_)
    · refine g_iconst O dX12_frame_82 (0 : Int32) (by decide) ?_
      refine g_istore_nP O dX12_frame_83 rfl (by decide) [(3, .int (0 : Int32)), (2, .int x2), (0, .ref (za Z i0))] rfl ?_
      refine g_lp hN (fun (a9 : Int32 × Mem) => G Z C a9.2 84 [(3, .int a9.1), (2, .int x2), (0, .ref (za Z i0))] []) hf (fun a9 _ hN9 hI9 hX9 hf => ?_)
      unfold sX12_frame_84 at hf
      refine g_iload_n O dX12_frame_84 0 rfl rfl ?_
      refine g_bipush O dX12_frame_85 (25 : Int32) (by decide) ?_
      refine g_icmp_ge 110 O dX12_frame_87 (by decide) hf (fun c10 hf => ?_) (fun c10 hf => ?_)
      · have hf := hX9 _ hf
        refine g_aload_n O dX12_frame_110 2 rfl rfl ?_
        refine g_getI O dX12_frame_111 fx_RX12_127 h0 ?_
        refine g_if_lt 127 O dX12_frame_114 (by decide) hf (fun c11 hf => ?_) (fun c11 hf => ?_)
        · refine g_bipush O dX12_frame_127 (-4 : Int32) (by decide) ?_
          exact hR _ _ hf _ _ dX12_frame_129
        · refine g_bipush O dX12_frame_117 (-100 : Int32) (by decide) ?_
          refine g_aload_n O dX12_frame_119 2 rfl rfl ?_
          refine g_getI O dX12_frame_120 fx_RX12_127 h0 ?_
          refine g_isub O dX12_frame_123 ?_
          refine g_goto 129 O dX12_frame_124 (by decide) ?_
          exact hR _ _ hf _ _ dX12_frame_129
      · refine g_aload_n O dX12_frame_90 2 rfl rfl ?_
        refine g_getR O dX12_frame_91 fx_RX12_9 h0 ?_
        refine g_iload_n O dX12_frame_94 1 rfl rfl ?_
        refine g_iload_n O dX12_frame_95 0 rfl rfl ?_
        refine g_iadd O dX12_frame_96 ?_
        refine g_aload_n O dX12_frame_97 2 rfl rfl ?_
        refine g_getR O dX12_frame_98 fx_RX12_22 h0 ?_
        refine g_iload_n O dX12_frame_101 0 rfl rfl ?_
        refine g_iald O hN9 dX12_frame_102 (kf_12_9 h0) hf (fun hf => ?_)
        refine g_iast O hN9 dX12_frame_103 (kf_12_0 h0) hf (fun m12 hf => ?_)
        refine g_iinc O dX12_frame_104 0 rfl (by decide) (1) (by decide) (fun y => [(3, .int y), (2, .int x2), (0, .ref (za Z i0))]) (fun _ => rfl) hf (fun x13 hf => ?_)
        refine g_goto 84 O dX12_frame_107 (by decide) ?_
        exact hI9 _ hf
    · skip
      refine g_if_ge 82 O dX12_frame_62 (by decide) hf (fun c14 hf => ?_) (fun c14 hf => ?_)
      · refine g_sub [1, 3] rfl ?_
        exact hk8 _ hf
      · refine g_iload_n O dX12_frame_65 2 rfl rfl ?_
        refine g_iconst O dX12_frame_66 (5 : Int32) (by decide) ?_
        refine g_icmp_ge 82 O dX12_frame_67 (by decide) hf (fun c15 hf => ?_) (fun c15 hf => ?_)
        · refine g_sub [1, 3] rfl ?_
          exact hk8 _ hf
        · refine g_aload_n O dX12_frame_70 3 rfl rfl ?_
          refine g_getR O dX12_frame_71 fx_RX12_9 h0 ?_
          refine g_iconst O dX12_frame_74 (1 : Int32) (by decide) ?_
          refine g_dup2 O dX12_frame_75 rfl rfl ?_
          refine g_iald O hN dX12_frame_76 (kf_12_0 h0) hf (fun hf => ?_)
          refine g_iconst O dX12_frame_77 (1 : Int32) (by decide) ?_
          refine g_iadd O dX12_frame_78 ?_
          refine g_iast O hN dX12_frame_79 (kf_12_0 h0) hf (fun m16 hf => ?_)
          refine g_iload_n O dX12_frame_80 2 rfl rfl ?_
          exact hR _ _ hf _ _ dX12_frame_81
  · refine g_aload_n O dX12_frame_28 3 rfl rfl ?_
    refine g_getR O dX12_frame_29 fx_RX12_22 h0 ?_
    refine g_iload_n O dX12_frame_32 0 rfl rfl ?_
    refine g_aload_n O dX12_frame_33 3 rfl rfl ?_
    refine g_getR O dX12_frame_34 fx_RX12_9 h0 ?_
    refine g_iload_n O dX12_frame_37 1 rfl rfl ?_
    refine g_iload_n O dX12_frame_38 0 rfl rfl ?_
    refine g_iadd O dX12_frame_39 ?_
    refine g_iald O hN3 dX12_frame_40 (kf_12_0 h0) hf (fun hf => ?_)
    refine g_iast O hN3 dX12_frame_41 (kf_12_9 h0) hf (fun m17 hf => ?_)
    refine g_iinc O dX12_frame_42 0 rfl (by decide) (1) (by decide) (fun y => [(3, .int y), (2, .int x2), (1, .int x1), (0, .ref (za Z i0))]) (fun _ => rfl) hf (fun x18 hf => ?_)
    refine g_goto 22 O dX12_frame_45 (by decide) ?_
    exact hI3 _ hf

set_option maxHeartbeats 4000000 in
set_option maxRecDepth 100000 in
theorem ct_X12_isFrame {Z : ZT} (hZ : ZOk Z) {σ : Mem} {i0 : Nat} {p1 : Int32} (h0 : kn i0 = 12) {r : Int32} (hf : fX12_isFrame σ i0 p1 = some r) : Ct Z yX12_isFrame cX12_isFrame 2 (some .boolean) 1 22 [.ref (za Z i0), .int p1] σ (some (.int r)) (r = 0 ∨ r = 1) σ := by
  refine ct_z hZ (by decide +kernel) (Nat.le_of_ble_eq_true rfl) hf (fun C K O hN hR hf => ?_)
  have O : Ok Z C RX12 cX12_isFrame 2 1 22 := O
  change G Z C σ 0 [(0, .ref (za Z i0)), (1, .int p1)] []
  unfold fX12_isFrame at hf
  refine g_iload_n O dX12_isFrame_0 1 rfl rfl ?_
  refine g_iconst O dX12_isFrame_1 (0 : Int32) (by decide) ?_
  refine g_aload_n O dX12_isFrame_2 0 rfl rfl ?_
  refine g_getR O dX12_isFrame_3 fx_RX12_9 h0 ?_
  refine g_iconst O dX12_isFrame_6 (1 : Int32) (by decide) ?_
  refine g_iald O hN dX12_isFrame_7 (kf_12_0 h0) hf (fun hf => ?_)
  refine g_iconst O dX12_isFrame_8 (1 : Int32) (by decide) ?_
  refine g_isub O dX12_isFrame_9 ?_
  obtain ⟨q1, hq1, hf⟩ := k_obd hN hf
  refine g_callS (rest := []) O dX12_isFrame_10 (ct_X12_isIn hZ  hq1) sx_RX12_64 rfl rfl (by decide) (Nat.le_of_ble_eq_true rfl) (fun hp2 => ?_)
  change G Z C σ 13 [(0, .ref (za Z i0)), (1, .int p1)] [.int q1]
  exact hR _ hf hp2 _ _ dX12_isFrame_13

set_option maxHeartbeats 4000000 in
set_option maxRecDepth 100000 in
theorem ct_X12_able {Z : ZT} (hZ : ZOk Z) {σ : Mem} {i0 : Nat} {p1 : Int32} {p2 : Int32} (h0 : kn i0 = 12) {r : Int32} (hf : fX12_able σ i0 p1 p2 = some r) : Ct Z yX12_able cX12_able 5 (some .int) 2 48 [.ref (za Z i0), .int p1, .int p2] σ (some (.int r)) True σ := by
  refine ct_i hZ (by decide +kernel) (Nat.le_of_ble_eq_true rfl) hf (fun C K O hN hR hf => ?_)
  have O : Ok Z C RX12 cX12_able 5 2 48 := O
  change G Z C σ 0 [(0, .ref (za Z i0)), (1, .int p1), (2, .int p2)] []
  unfold fX12_able at hf
  refine g_iconst O dX12_able_0 (0 : Int32) (by decide) ?_
  refine g_istore_nP O dX12_able_1 rfl (by decide) [(3, .int (0 : Int32)), (0, .ref (za Z i0)), (1, .int p1), (2, .int p2)] rfl ?_
  refine g_iconst O dX12_able_2 (0 : Int32) (by decide) ?_
  refine g_istoreP O dX12_able_3 (by decide) [(4, .int (0 : Int32)), (3, .int (0 : Int32)), (0, .ref (za Z i0)), (1, .int p1), (2, .int p2)] rfl ?_
  refine g_lp hN (fun (a1 : Int32 × Int32) => G Z C σ 5 [(4, .int a1.1), (3, .int a1.2), (0, .ref (za Z i0)), (1, .int p1), (2, .int p2)] []) hf (fun a1 _ hN1 hI1 hX1 hf => ?_)
  unfold sX12_able_5 at hf
  refine g_iload O dX12_able_5 0 rfl ?_
  refine g_aload_n O dX12_able_7 2 rfl rfl ?_
  refine g_getR O dX12_able_8 fx_RX12_9 h0 ?_
  refine g_iconst O dX12_able_11 (0 : Int32) (by decide) ?_
  refine g_iald O hN1 dX12_able_12 (kf_12_0 h0) hf (fun hf => ?_)
  refine g_icmp_ge 41 O dX12_able_13 (by decide) hf (fun c2 hf => ?_) (fun c2 hf => ?_)
  · have hf := hX1 _ hf
    refine g_iload_n O dX12_able_41 1 rfl rfl ?_
    exact hR _ hf _ _ dX12_able_42
  · refine g_iload_n O dX12_able_16 1 rfl rfl ?_
    refine g_aload_n O dX12_able_17 2 rfl rfl ?_
    refine g_iload_n O dX12_able_18 3 rfl rfl ?_
    refine g_iload_n O dX12_able_19 4 rfl rfl ?_
    refine g_iload O dX12_able_20 0 rfl ?_
    obtain ⟨q3, hq3, hf⟩ := k_obd hN1 hf
    refine g_callV (rest := [.int a1.2]) O dX12_able_22 (ct_X12_canBe hZ h0 hq3) vx_RX12_148 h0 rfl rfl (by decide) (Nat.le_of_ble_eq_true rfl) (fun hp4 => ?_)
    change G Z C σ 25 [(4, .int a1.1), (3, .int a1.2), (0, .ref (za Z i0)), (1, .int p1), (2, .int p2)] [.int q3, .int a1.2]
    refine g_if_eq 32 O dX12_able_25 (by decide) hf (fun c5 hf => ?_) (fun c5 hf => ?_)
    · refine g_iconst O dX12_able_32 (0 : Int32) (by decide) ?_
      refine g_iadd O dX12_able_33 ?_
      refine g_istore_n O dX12_able_34 rfl (by decide) (fun y => [(3, .int y), (4, .int a1.1), (0, .ref (za Z i0)), (1, .int p1), (2, .int p2)]) (fun _ => rfl) hf (fun x6 hf => ?_)
      refine g_iinc O dX12_able_35 1 rfl (by decide) (1) (by decide) (fun y => [(4, .int y), (3, .int x6), (0, .ref (za Z i0)), (1, .int p1), (2, .int p2)]) (fun _ => rfl) hf (fun x7 hf => ?_)
      refine g_goto 5 O dX12_able_38 (by decide) ?_
      exact hI1 _ hf
    · refine g_iconst O dX12_able_28 (1 : Int32) (by decide) ?_
      refine g_goto 33 O dX12_able_29 (by decide) ?_
      refine g_iadd O dX12_able_33 ?_
      refine g_istore_n O dX12_able_34 rfl (by decide) (fun y => [(3, .int y), (4, .int a1.1), (0, .ref (za Z i0)), (1, .int p1), (2, .int p2)]) (fun _ => rfl) hf (fun x8 hf => ?_)
      refine g_iinc O dX12_able_35 1 rfl (by decide) (1) (by decide) (fun y => [(4, .int y), (3, .int x8), (0, .ref (za Z i0)), (1, .int p1), (2, .int p2)]) (fun _ => rfl) hf (fun x9 hf => ?_)
      refine g_goto 5 O dX12_able_38 (by decide) ?_
      exact hI1 _ hf

set_option maxHeartbeats 4000000 in
set_option maxRecDepth 100000 in
theorem ct_X12_hole {Z : ZT} (hZ : ZOk Z) {σ : Mem} {i0 : Nat} {p1 : Int32} {p2 : Int32} {p3 : Int32} (h0 : kn i0 = 12) {r : Int32} (hf : fX12_hole σ i0 p1 p2 p3 = some r) : Ct Z yX12_hole cX12_hole 5 (some .int) 3 72 [.ref (za Z i0), .int p1, .int p2, .int p3] σ (some (.int r)) True σ := by
  refine ct_i hZ (by decide +kernel) (Nat.le_of_ble_eq_true rfl) hf (fun C K O hN hR hf => ?_)
  have O : Ok Z C RX12 cX12_hole 5 3 72 := O
  change G Z C σ 0 [(0, .ref (za Z i0)), (1, .int p1), (2, .int p2), (3, .int p3)] []
  unfold fX12_hole at hf
  refine g_aload_n O dX12_hole_0 0 rfl rfl ?_
  refine g_iload_n O dX12_hole_1 1 rfl rfl ?_
  obtain ⟨q1, hq1, hf⟩ := k_obd hN hf
  refine g_callV (rest := []) O dX12_hole_2 (ct_X12_isFrame hZ h0 hq1) vx_RX12_151 h0 rfl rfl (by decide) (Nat.le_of_ble_eq_true rfl) (fun hp2 => ?_)
  change G Z C σ 5 [(0, .ref (za Z i0)), (1, .int p1), (2, .int p2), (3, .int p3)] [.int q1]
  refine g_if_eq 17 O dX12_hole_5 (by decide) hf (fun c3 hf => ?_) (fun c3 hf => ?_)
  · refine g_bipush O dX12_hole_17 (-2 : Int32) (by decide) ?_
    exact hR _ hf _ _ dX12_hole_19
  · refine g_iload_n O dX12_hole_8 3 rfl rfl ?_
    refine g_iconst O dX12_hole_9 (0 : Int32) (by decide) ?_
    refine g_iconst O dX12_hole_10 (4 : Int32) (by decide) ?_
    obtain ⟨q4, hq4, hf⟩ := k_obd hN hf
    refine g_callS (rest := []) O dX12_hole_11 (ct_X12_isIn hZ  hq4) sx_RX12_64 rfl rfl (by decide) (Nat.le_of_ble_eq_true rfl) (fun hp5 => ?_)
    change G Z C σ 14 [(0, .ref (za Z i0)), (1, .int p1), (2, .int p2), (3, .int p3)] [.int q4]
    refine g_if_ne 20 O dX12_hole_14 (by decide) hf (fun c6 hf => ?_) (fun c6 hf => ?_)
    · refine g_bipush O dX12_hole_17 (-2 : Int32) (by decide) ?_
      exact hR _ hf _ _ dX12_hole_19
    · refine g_iload_n O dX12_hole_20 2 rfl rfl ?_
      refine g_iconst O dX12_hole_21 (0 : Int32) (by decide) ?_
      refine g_aload_n O dX12_hole_22 0 rfl rfl ?_
      refine g_iload_n O dX12_hole_23 1 rfl rfl ?_
      obtain ⟨q7, hq7, hf⟩ := k_obd hN hf
      refine g_callV (rest := [.int (0 : Int32), .int p2]) O dX12_hole_24 (ct_X12_holes hZ h0 hq7) vx_RX12_154 h0 rfl rfl (by decide) (Nat.le_of_ble_eq_true rfl) (fun hp8 => ?_)
      change G Z C σ 27 [(0, .ref (za Z i0)), (1, .int p1), (2, .int p2), (3, .int p3)] [.int q7, .int (0 : Int32), .int p2]
      refine g_iconst O dX12_hole_27 (1 : Int32) (by decide) ?_
      refine g_isub O dX12_hole_28 ?_
      obtain ⟨q9, hq9, hf⟩ := k_obd hN hf
      refine g_callS (rest := []) O dX12_hole_29 (ct_X12_isIn hZ  hq9) sx_RX12_64 rfl rfl (by decide) (Nat.le_of_ble_eq_true rfl) (fun hp10 => ?_)
      change G Z C σ 32 [(0, .ref (za Z i0)), (1, .int p1), (2, .int p2), (3, .int p3)] [.int q9]
      refine g_if_ne 38 O dX12_hole_32 (by decide) hf (fun c11 hf => ?_) (fun c11 hf => ?_)
      · refine g_bipush O dX12_hole_35 (-12 : Int32) (by decide) ?_
        exact hR _ hf _ _ dX12_hole_37
      · refine g_iload_n O dX12_hole_38 3 rfl rfl ?_
        refine g_iconst O dX12_hole_39 (4 : Int32) (by decide) ?_
        refine g_icmp_ne 50 O dX12_hole_40 (by decide) hf (fun c12 hf => ?_) (fun c12 hf => ?_)
        · refine g_aload_n O dX12_hole_43 0 rfl rfl ?_
          refine g_iload_n O dX12_hole_44 1 rfl rfl ?_
          refine g_iload_n O dX12_hole_45 2 rfl rfl ?_
          obtain ⟨q13, hq13, hf⟩ := k_obd hN hf
          refine g_callV (rest := []) O dX12_hole_46 (ct_X12_able hZ h0 hq13) vx_RX12_157 h0 rfl rfl (by decide) (Nat.le_of_ble_eq_true rfl) (fun hp14 => ?_)
          change G Z C σ 49 [(0, .ref (za Z i0)), (1, .int p1), (2, .int p2), (3, .int p3)] [.int q13]
          exact hR _ hf _ _ dX12_hole_49
        · refine g_aload_n O dX12_hole_50 0 rfl rfl ?_
          refine g_iload_n O dX12_hole_51 1 rfl rfl ?_
          refine g_iload_n O dX12_hole_52 2 rfl rfl ?_
          refine g_iconst O dX12_hole_53 (0 : Int32) (by decide) ?_
          obtain ⟨q15, hq15, hf⟩ := k_obd hN hf
          refine g_callV (rest := []) O dX12_hole_54 (ct_X12_ofHole hZ h0 hq15) vx_RX12_115 h0 rfl rfl (by decide) (Nat.le_of_ble_eq_true rfl) (fun hp16 => ?_)
          change G Z C σ 57 [(0, .ref (za Z i0)), (1, .int p1), (2, .int p2), (3, .int p3)] [.int q15]
          refine g_istoreP O dX12_hole_57 (by decide) [(4, .int q15), (0, .ref (za Z i0)), (1, .int p1), (2, .int p2), (3, .int p3)] rfl ?_
          refine g_iload_n O dX12_hole_59 4 rfl rfl ?_
          refine g_if_le 73 O dX12_hole_60 (by decide) hf (fun c17 hf => ?_) (fun c17 hf => ?_)
          · refine g_iload O dX12_hole_73 0 rfl ?_
            refine g_bipush O dX12_hole_75 (110 : Int32) (by decide) ?_
            refine g_icmp_ne 84 O dX12_hole_77 (by decide) hf (fun c18 hf => ?_) (fun c18 hf => ?_)
            · refine g_iconst O dX12_hole_80 (0 : Int32) (by decide) ?_
              refine g_goto 107 O dX12_hole_81 (by decide) ?_
              exact hR _ hf _ _ dX12_hole_107
            · refine g_iload O dX12_hole_84 0 rfl ?_
              refine g_bipush O dX12_hole_86 (118 : Int32) (by decide) ?_
              refine g_icmp_ne 95 O dX12_hole_88 (by decide) hf (fun c19 hf => ?_) (fun c19 hf => ?_)
              · refine g_iconst O dX12_hole_91 (1 : Int32) (by decide) ?_
                refine g_goto 107 O dX12_hole_92 (by decide) ?_
                exact hR _ hf _ _ dX12_hole_107
              · refine g_iload O dX12_hole_95 0 rfl ?_
                refine g_bipush O dX12_hole_97 (102 : Int32) (by decide) ?_
                refine g_icmp_ne 106 O dX12_hole_99 (by decide) hf (fun c20 hf => ?_) (fun c20 hf => ?_)
                · refine g_iconst O dX12_hole_102 (2 : Int32) (by decide) ?_
                  refine g_goto 107 O dX12_hole_103 (by decide) ?_
                  exact hR _ hf _ _ dX12_hole_107
                · refine g_iconst O dX12_hole_106 (3 : Int32) (by decide) ?_
                  exact hR _ hf _ _ dX12_hole_107
          · refine g_aload_n O dX12_hole_63 1 rfl rfl ?_
            refine g_iload_n O dX12_hole_64 2 rfl rfl ?_
            refine g_iload_n O dX12_hole_65 3 rfl rfl ?_
            refine g_iload_n O dX12_hole_66 4 rfl rfl ?_
            obtain ⟨q21, hq21, hf⟩ := k_obd hN hf
            refine g_callV (rest := []) O dX12_hole_67 (ct_X12_ofHole hZ h0 hq21) vx_RX12_115 h0 rfl rfl (by decide) (Nat.le_of_ble_eq_true rfl) (fun hp22 => ?_)
            change G Z C σ 70 [(4, .int q15), (0, .ref (za Z i0)), (1, .int p1), (2, .int p2), (3, .int p3)] [.int q21]
            refine g_goto 107 O dX12_hole_70 (by decide) ?_
            exact hR _ hf _ _ dX12_hole_107

set_option maxHeartbeats 4000000 in
set_option maxRecDepth 100000 in
theorem ct_X12_holeOf {Z : ZT} (hZ : ZOk Z) {σ : Mem} {i0 : Nat} {p1 : Int32} {p2 : Int32} (h0 : kn i0 = 12) {r : Int32} (hf : fX12_holeOf σ i0 p1 p2 = some r) : Ct Z yX12_holeOf cX12_holeOf 4 (some .int) 1 23 [.ref (za Z i0), .int p1, .int p2] σ (some (.int r)) True σ := by
  refine ct_i hZ (by decide +kernel) (Nat.le_of_ble_eq_true rfl) hf (fun C K O hN hR hf => ?_)
  have O : Ok Z C RX12 cX12_holeOf 4 1 23 := O
  change G Z C σ 0 [(0, .ref (za Z i0)), (1, .int p1), (2, .int p2)] []
  unfold fX12_holeOf at hf
  refine g_iconst O dX12_holeOf_0 (0 : Int32) (by decide) ?_
  refine g_istore_nP O dX12_holeOf_1 rfl (by decide) [(3, .int (0 : Int32)), (0, .ref (za Z i0)), (1, .int p1), (2, .int p2)] rfl ?_
  refine g_lp hN (fun (a1 : Int32) => G Z C σ 2 [(3, .int a1), (0, .ref (za Z i0)), (1, .int p1), (2, .int p2)] []) hf (fun a1 _ hN1 hI1 hX1 hf => ?_)
  unfold sX12_holeOf_2 at hf
  refine g_iload_n O dX12_holeOf_2 0 rfl rfl ?_
  refine g_aload_n O dX12_holeOf_3 1 rfl rfl ?_
  refine g_iload_n O dX12_holeOf_4 2 rfl rfl ?_
  obtain ⟨q2, hq2, hf⟩ := k_obd hN1 hf
  refine g_callV (rest := [.int a1]) O dX12_holeOf_5 (ct_X12_holes hZ h0 hq2) vx_RX12_154 h0 rfl rfl (by decide) (Nat.le_of_ble_eq_true rfl) (fun hp3 => ?_)
  change G Z C σ 8 [(3, .int a1), (0, .ref (za Z i0)), (1, .int p1), (2, .int p2)] [.int q2, .int a1]
  refine g_icmp_ge 42 O dX12_holeOf_8 (by decide) hf (fun c4 hf => ?_) (fun c4 hf => ?_)
  · have hf := hX1 _ hf
    refine g_iconst O dX12_holeOf_42 (-1 : Int32) (by decide) ?_
    exact hR _ hf _ _ dX12_holeOf_43
  · refine g_aload_n O dX12_holeOf_11 1 rfl rfl ?_
    refine g_iload_n O dX12_holeOf_12 2 rfl rfl ?_
    refine g_iload_n O dX12_holeOf_13 0 rfl rfl ?_
    refine g_iconst O dX12_holeOf_14 (0 : Int32) (by decide) ?_
    obtain ⟨q5, hq5, hf⟩ := k_obd hN1 hf
    refine g_callV (rest := []) O dX12_holeOf_15 (ct_X12_ofHole hZ h0 hq5) vx_RX12_115 h0 rfl rfl (by decide) (Nat.le_of_ble_eq_true rfl) (fun hp6 => ?_)
    change G Z C σ 18 [(3, .int a1), (0, .ref (za Z i0)), (1, .int p1), (2, .int p2)] [.int q5]
    refine g_bipush O dX12_holeOf_18 (110 : Int32) (by decide) ?_
    refine g_icmp_ne 36 O dX12_holeOf_20 (by decide) hf (fun c7 hf => ?_) (fun c7 hf => ?_)
    · refine g_aload_n O dX12_holeOf_23 1 rfl rfl ?_
      refine g_iload_n O dX12_holeOf_24 2 rfl rfl ?_
      refine g_iload_n O dX12_holeOf_25 0 rfl rfl ?_
      refine g_iconst O dX12_holeOf_26 (1 : Int32) (by decide) ?_
      obtain ⟨q8, hq8, hf⟩ := k_obd hN1 hf
      refine g_callV (rest := []) O dX12_holeOf_27 (ct_X12_ofHole hZ h0 hq8) vx_RX12_115 h0 rfl rfl (by decide) (Nat.le_of_ble_eq_true rfl) (fun hp9 => ?_)
      change G Z C σ 30 [(3, .int a1), (0, .ref (za Z i0)), (1, .int p1), (2, .int p2)] [.int q8]
      refine g_iload_n O dX12_holeOf_30 3 rfl rfl ?_
      refine g_icmp_ne 36 O dX12_holeOf_31 (by decide) hf (fun c10 hf => ?_) (fun c10 hf => ?_)
      · have hf := hX1 _ hf
        refine g_iload_n O dX12_holeOf_34 0 rfl rfl ?_
        exact hR _ hf _ _ dX12_holeOf_35
      · refine g_iinc O dX12_holeOf_36 0 rfl (by decide) (1) (by decide) (fun y => [(3, .int y), (0, .ref (za Z i0)), (1, .int p1), (2, .int p2)]) (fun _ => rfl) hf (fun x11 hf => ?_)
        refine g_goto 2 O dX12_holeOf_39 (by decide) ?_
        exact hI1 _ hf
    · refine g_iinc O dX12_holeOf_36 0 rfl (by decide) (1) (by decide) (fun y => [(3, .int y), (0, .ref (za Z i0)), (1, .int p1), (2, .int p2)]) (fun _ => rfl) hf (fun x12 hf => ?_)
      refine g_goto 2 O dX12_holeOf_39 (by decide) ?_
      exact hI1 _ hf

set_option maxHeartbeats 4000000 in
set_option maxRecDepth 100000 in
theorem ct_X12_isFilled {Z : ZT} (hZ : ZOk Z) {σ : Mem} {i0 : Nat} {p1 : Int32} {p2 : Int32} {i3 : Nat} (h0 : kn i0 = 12) (h3 : kn i3 = 21) {r : Int32} (hf : fX12_isFilled σ i0 p1 p2 i3 = some r) : Ct Z yX12_isFilled cX12_isFilled 5 (some .boolean) 1 21 [.ref (za Z i0), .int p1, .int p2, .ref (za Z i3)] σ (some (.int r)) (r = 0 ∨ r = 1) σ := by
  refine ct_z hZ (by decide +kernel) (Nat.le_of_ble_eq_true rfl) hf (fun C K O hN hR hf => ?_)
  have O : Ok Z C RX12 cX12_isFilled 5 1 21 := O
  change G Z C σ 0 [(0, .ref (za Z i0)), (1, .int p1), (2, .int p2), (3, .ref (za Z i3))] []
  unfold fX12_isFilled at hf
  refine g_iconst O dX12_isFilled_0 (0 : Int32) (by decide) ?_
  refine g_istoreP O dX12_isFilled_1 (by decide) [(4, .int (0 : Int32)), (0, .ref (za Z i0)), (1, .int p1), (2, .int p2), (3, .ref (za Z i3))] rfl ?_
  refine g_lp hN (fun (a1 : Int32) => G Z C σ 3 [(4, .int a1), (0, .ref (za Z i0)), (1, .int p1), (2, .int p2), (3, .ref (za Z i3))] []) hf (fun a1 _ hN1 hI1 hX1 hf => ?_)
  unfold sX12_isFilled_3 at hf
  refine g_iload O dX12_isFilled_3 0 rfl ?_
  refine g_aload_n O dX12_isFilled_5 1 rfl rfl ?_
  refine g_iload_n O dX12_isFilled_6 2 rfl rfl ?_
  obtain ⟨q2, hq2, hf⟩ := k_obd hN1 hf
  refine g_callV (rest := [.int a1]) O dX12_isFilled_7 (ct_X12_holes hZ h0 hq2) vx_RX12_154 h0 rfl rfl (by decide) (Nat.le_of_ble_eq_true rfl) (fun hp3 => ?_)
  change G Z C σ 10 [(4, .int a1), (0, .ref (za Z i0)), (1, .int p1), (2, .int p2), (3, .ref (za Z i3))] [.int q2, .int a1]
  refine g_icmp_ge 30 O dX12_isFilled_10 (by decide) hf (fun c4 hf => ?_) (fun c4 hf => ?_)
  · have hf := hX1 _ hf
    refine g_iconst O dX12_isFilled_30 (1 : Int32) (by decide) ?_
    exact hR _ hf (Or.inr rfl) _ _ dX12_isFilled_31
  · refine g_aload_n O dX12_isFilled_13 4 rfl rfl ?_
    refine g_iload_n O dX12_isFilled_14 3 rfl rfl ?_
    refine g_iload O dX12_isFilled_15 0 rfl ?_
    refine g_iadd O dX12_isFilled_17 ?_
    refine g_iald O hN1 dX12_isFilled_18 h3 hf (fun hf => ?_)
    refine g_if_ge 24 O dX12_isFilled_19 (by decide) hf (fun c5 hf => ?_) (fun c5 hf => ?_)
    · refine g_iinc O dX12_isFilled_24 0 rfl (by decide) (1) (by decide) (fun y => [(4, .int y), (0, .ref (za Z i0)), (1, .int p1), (2, .int p2), (3, .ref (za Z i3))]) (fun _ => rfl) hf (fun x6 hf => ?_)
      refine g_goto 3 O dX12_isFilled_27 (by decide) ?_
      exact hI1 _ hf
    · have hf := hX1 _ hf
      refine g_iconst O dX12_isFilled_22 (0 : Int32) (by decide) ?_
      exact hR _ hf (Or.inl rfl) _ _ dX12_isFilled_23

set_option maxHeartbeats 4000000 in
set_option maxRecDepth 100000 in
theorem ct_X12_formsAt {Z : ZT} (hZ : ZOk Z) {σ : Mem} {i0 : Nat} {p1 : Int32} {p2 : Int32} {p3 : Int32} {i4 : Nat} {p5 : Int32} {p6 : Int32} (h0 : kn i0 = 12) (h4 : kn i4 = 21) {r : Mem} (hf : fX12_formsAt σ i0 p1 p2 p3 i4 p5 p6 = some r) : Ct Z yX12_formsAt cX12_formsAt 10 none 4 92 [.ref (za Z i0), .int p1, .int p2, .int p3, .ref (za Z i4), .int p5, .int p6] σ none True r := by
  refine ct_v hZ (by decide +kernel) (Nat.le_of_ble_eq_true rfl) hf (fun C K O hN hR hf => ?_)
  have O : Ok Z C RX12 cX12_formsAt 10 4 92 := O
  change G Z C σ 0 [(0, .ref (za Z i0)), (1, .int p1), (2, .int p2), (3, .int p3), (4, .ref (za Z i4)), (5, .int p5), (6, .int p6)] []
  unfold fX12_formsAt at hf
  refine g_aload O dX12_formsAt_0 4 rfl ?_
  refine g_iload_n O dX12_formsAt_2 3 rfl rfl ?_
  refine g_iload_n O dX12_formsAt_3 2 rfl rfl ?_
  refine g_iadd O dX12_formsAt_4 ?_
  refine g_iald O hN dX12_formsAt_5 h4 hf (fun hf => ?_)
  refine g_istore O dX12_formsAt_6 (by decide) (fun y => [(7, .int y), (0, .ref (za Z i0)), (1, .int p1), (2, .int p2), (3, .int p3), (4, .ref (za Z i4)), (5, .int p5), (6, .int p6)]) (fun _ => rfl) hf (fun x1 hf => ?_)
  refine g_aload_n O dX12_formsAt_8 1 rfl rfl ?_
  refine g_iload_n O dX12_formsAt_9 2 rfl rfl ?_
  refine g_iload_n O dX12_formsAt_10 3 rfl rfl ?_
  refine g_iconst O dX12_formsAt_11 (1 : Int32) (by decide) ?_
  obtain ⟨q2, hq2, hf⟩ := k_obd hN hf
  refine g_callV (rest := []) O dX12_formsAt_12 (ct_X12_ofHole hZ h0 hq2) vx_RX12_115 h0 rfl rfl (by decide) (Nat.le_of_ble_eq_true rfl) (fun hp3 => ?_)
  change G Z C σ 15 [(7, .int x1), (0, .ref (za Z i0)), (1, .int p1), (2, .int p2), (3, .int p3), (4, .ref (za Z i4)), (5, .int p5), (6, .int p6)] [.int q2]
  refine g_istoreP O dX12_formsAt_15 (by decide) [(8, .int q2), (7, .int x1), (0, .ref (za Z i0)), (1, .int p1), (2, .int p2), (3, .int p3), (4, .ref (za Z i4)), (5, .int p5), (6, .int p6)] rfl ?_
  refine g_iload O dX12_formsAt_17 0 rfl ?_
  refine g_if_ge 33 O dX12_formsAt_19 (by decide) hf (fun c4 hf => ?_) (fun c4 hf => ?_)
  · refine g_aload O dX12_formsAt_33 6 rfl ?_
    refine g_iload_n O dX12_formsAt_35 5 rfl rfl ?_
    refine g_aload_n O dX12_formsAt_36 2 rfl rfl ?_
    refine g_iload_n O dX12_formsAt_37 3 rfl rfl ?_
    refine g_iload O dX12_formsAt_38 0 rfl ?_
    obtain ⟨q5, hq5, hf⟩ := k_obd hN hf
    refine g_callV (rest := [.int p3, .ref (za Z i4)]) O dX12_formsAt_40 (ct_X12_holeOf hZ h0 hq5) vx_RX12_160 h0 rfl rfl (by decide) (Nat.le_of_ble_eq_true rfl) (fun hp6 => ?_)
    change G Z C σ 43 [(8, .int q2), (7, .int x1), (0, .ref (za Z i0)), (1, .int p1), (2, .int p2), (3, .int p3), (4, .ref (za Z i4)), (5, .int p5), (6, .int p6)] [.int q5, .int p3, .ref (za Z i4)]
    refine g_iadd O dX12_formsAt_43 ?_
    refine g_iald O hN dX12_formsAt_44 h4 hf (fun hf => ?_)
    refine g_istore O dX12_formsAt_45 (by decide) (fun y => [(9, .int y), (8, .int q2), (7, .int x1), (0, .ref (za Z i0)), (1, .int p1), (2, .int p2), (3, .int p3), (4, .ref (za Z i4)), (5, .int p5), (6, .int p6)]) (fun _ => rfl) hf (fun x7 hf => ?_)
    refine g_aload_n O dX12_formsAt_47 3 rfl rfl ?_
    refine g_iload O dX12_formsAt_48 2 rfl ?_
    refine g_iconst O dX12_formsAt_50 (0 : Int32) (by decide) ?_
    refine g_aload_n O dX12_formsAt_51 3 rfl rfl ?_
    refine g_iload_n O dX12_formsAt_52 4 rfl rfl ?_
    refine g_iload_n O dX12_formsAt_53 5 rfl rfl ?_
    refine g_iconst O dX12_formsAt_54 (2 : Int32) (by decide) ?_
    obtain ⟨q8, hq8, hf⟩ := k_obd hN hf
    refine g_callV (rest := [.int (0 : Int32), .int x1, .ref (za Z i0)]) O dX12_formsAt_55 (ct_X12_ofHole hZ h0 hq8) vx_RX12_115 h0 rfl rfl (by decide) (Nat.le_of_ble_eq_true rfl) (fun hp9 => ?_)
    change G Z C σ 58 [(9, .int x7), (8, .int q2), (7, .int x1), (0, .ref (za Z i0)), (1, .int p1), (2, .int p2), (3, .int p3), (4, .ref (za Z i4)), (5, .int p5), (6, .int p6)] [.int q8, .int (0 : Int32), .int x1, .ref (za Z i0)]
    refine g_mmax O dX12_formsAt_58 lm_RX12_163 mm_max.1 mm_max.2.1 mm_max.2.2 (by decide) (Nat.le_of_ble_eq_true rfl) ?_
    refine g_aload_n O dX12_formsAt_61 3 rfl rfl ?_
    refine g_iload O dX12_formsAt_62 0 rfl ?_
    obtain ⟨q10, hq10, hf⟩ := k_obd hN hf
    refine g_callV (rest := [.int (imx (0 : Int32) q8), .int x1, .ref (za Z i0)]) O dX12_formsAt_64 (ct_X12_kind hZ h0 hq10) vx_RX12_101 h0 rfl rfl (by decide) (Nat.le_of_ble_eq_true rfl) (fun hp11 => ?_)
    change G Z C σ 67 [(9, .int x7), (8, .int q2), (7, .int x1), (0, .ref (za Z i0)), (1, .int p1), (2, .int p2), (3, .int p3), (4, .ref (za Z i4)), (5, .int p5), (6, .int p6)] [.int q10, .int (imx (0 : Int32) q8), .int x1, .ref (za Z i0)]
    refine g_iconst O dX12_formsAt_67 (3 : Int32) (by decide) ?_
    refine g_jn (fun (y12 : Int32) => G Z C σ 82 [(9, .int x7), (0, .ref (za Z i0)), (6, .int p6)] [.int y12, .int (imx (0 : Int32) q8), .int x1, .ref (za Z i0)]) hf (fun y12 hf => ?_) (fun k12 hk12 hf => ?_)
    · refine g_aload_n O dX12_formsAt_82 1 rfl rfl ?_
      refine g_iload O dX12_formsAt_83 0 rfl ?_
      obtain ⟨q13, hq13, hf⟩ := k_obd hN hf
      refine g_callV (rest := [.int y12, .int (imx (0 : Int32) q8), .int x1, .ref (za Z i0)]) O dX12_formsAt_85 (ct_X12_gender hZ h0 hq13) vx_RX12_108 h0 rfl rfl (by decide) (Nat.le_of_ble_eq_true rfl) (fun hp14 => ?_)
      change G Z C σ 88 [(9, .int x7), (0, .ref (za Z i0)), (6, .int p6)] [.int q13, .int y12, .int (imx (0 : Int32) q8), .int x1, .ref (za Z i0)]
      refine g_iload O dX12_formsAt_88 2 rfl ?_
      obtain ⟨q15, hq15, hf⟩ := k_obd hN hf
      refine g_callV (rest := []) O dX12_formsAt_90 (ct_X12_forms hZ h0 hq15) vx_RX12_111 h0 rfl rfl (by decide) (Nat.le_of_ble_eq_true rfl) (fun hp16 => ?_)
      change G Z C q15 93 [(9, .int x7), (0, .ref (za Z i0)), (6, .int p6)] []
      exact hR _ hf _ _ dX12_formsAt_93
    · skip
      refine g_icmp_ne 75 O dX12_formsAt_68 (by decide) hf (fun c17 hf => ?_) (fun c17 hf => ?_)
      · refine g_iconst O dX12_formsAt_71 (0 : Int32) (by decide) ?_
        refine g_goto 82 O dX12_formsAt_72 (by decide) ?_
        refine g_sub [0, 3, 9] rfl ?_
        exact hk12 _ hf
      · refine g_iload O dX12_formsAt_75 8 rfl ?_
        refine g_iload O dX12_formsAt_77 1 rfl ?_
        refine g_ishr O dX12_formsAt_79 ?_
        refine g_iconst O dX12_formsAt_80 (1 : Int32) (by decide) ?_
        refine g_iand O dX12_formsAt_81 ?_
        refine g_sub [0, 3, 9] rfl ?_
        exact hk12 _ hf
  · refine g_aload_n O dX12_formsAt_22 2 rfl rfl ?_
    refine g_iload O dX12_formsAt_23 1 rfl ?_
    refine g_iconst O dX12_formsAt_25 (0 : Int32) (by decide) ?_
    refine g_iconst O dX12_formsAt_26 (0 : Int32) (by decide) ?_
    refine g_iconst O dX12_formsAt_27 (0 : Int32) (by decide) ?_
    refine g_iconst O dX12_formsAt_28 (0 : Int32) (by decide) ?_
    obtain ⟨q18, hq18, hf⟩ := k_obd hN hf
    refine g_callV (rest := []) O dX12_formsAt_29 (ct_X12_forms hZ h0 hq18) vx_RX12_111 h0 rfl rfl (by decide) (Nat.le_of_ble_eq_true rfl) (fun hp19 => ?_)
    change G Z C q18 32 [(8, .int q2), (7, .int x1), (0, .ref (za Z i0)), (1, .int p1), (2, .int p2), (3, .int p3), (4, .ref (za Z i4)), (5, .int p5), (6, .int p6)] []
    exact hR _ hf _ _ dX12_formsAt_32

set_option maxHeartbeats 4000000 in
set_option maxRecDepth 100000 in
theorem ct_X12_says {Z : ZT} (hZ : ZOk Z) {σ : Mem} {i0 : Nat} {p1 : Int32} {p2 : Int32} {i3 : Nat} {p4 : Int32} {p5 : Int32} (h0 : kn i0 = 12) (h3 : kn i3 = 21) {r : Mem} (hf : fX12_says σ i0 p1 p2 i3 p4 p5 = some r) : Ct Z yX12_says cX12_says 8 none 5 121 [.ref (za Z i0), .int p1, .int p2, .ref (za Z i3), .int p4, .int p5] σ none True r := by
  refine ct_v hZ (by decide +kernel) (Nat.le_of_ble_eq_true rfl) hf (fun C K O hN hR hf => ?_)
  have O : Ok Z C RX12 cX12_says 8 5 121 := O
  change G Z C σ 0 [(0, .ref (za Z i0)), (1, .int p1), (2, .int p2), (3, .ref (za Z i3)), (4, .int p4), (5, .int p5)] []
  unfold fX12_says at hf
  refine g_aload_n O dX12_says_0 0 rfl rfl ?_
  refine g_iconst O dX12_says_1 (0 : Int32) (by decide) ?_
  refine g_putI O dX12_says_2 fp_RX12_166 h0 hf (fun m1 hf => ?_)
  refine g_iload_n O dX12_says_5 1 rfl rfl ?_
  refine g_if_lt 19 O dX12_says_6 (by decide) hf (fun c2 hf => ?_) (fun c2 hf => ?_)
  · exact hR _ hf _ _ dX12_says_19
  · refine g_aload_n O dX12_says_9 0 rfl rfl ?_
    refine g_iload_n O dX12_says_10 1 rfl rfl ?_
    refine g_iload_n O dX12_says_11 2 rfl rfl ?_
    refine g_aload_n O dX12_says_12 3 rfl rfl ?_
    obtain ⟨q3, hq3, hf⟩ := k_obd hN hf
    refine g_callV (rest := []) O dX12_says_13 (ct_X12_isFilled hZ h0 h3 hq3) vx_RX12_169 h0 rfl rfl (by decide) (Nat.le_of_ble_eq_true rfl) (fun hp4 => ?_)
    change G Z C m1 16 [(0, .ref (za Z i0)), (1, .int p1), (2, .int p2), (3, .ref (za Z i3)), (4, .int p4), (5, .int p5)] [.int q3]
    refine g_if_ne 20 O dX12_says_16 (by decide) hf (fun c5 hf => ?_) (fun c5 hf => ?_)
    · exact hR _ hf _ _ dX12_says_19
    · refine g_iconst O dX12_says_20 (0 : Int32) (by decide) ?_
      refine g_istoreP O dX12_says_21 (by decide) [(6, .int (0 : Int32)), (0, .ref (za Z i0)), (1, .int p1), (2, .int p2), (3, .ref (za Z i3)), (4, .int p4), (5, .int p5)] rfl ?_
      refine g_lp hN (fun (a6 : Int32 × Mem) => G Z C a6.2 23 [(6, .int a6.1), (0, .ref (za Z i0)), (1, .int p1), (2, .int p2), (3, .ref (za Z i3)), (4, .int p4), (5, .int p5)] []) hf (fun a6 _ hN6 hI6 hX6 hf => ?_)
      unfold sX12_says_23 at hf
      refine g_iload O dX12_says_23 0 rfl ?_
      refine g_aload_n O dX12_says_25 1 rfl rfl ?_
      refine g_iload_n O dX12_says_26 2 rfl rfl ?_
      obtain ⟨q7, hq7, hf⟩ := k_obd hN6 hf
      refine g_callV (rest := [.int a6.1]) O dX12_says_27 (ct_X12_holes hZ h0 hq7) vx_RX12_154 h0 rfl rfl (by decide) (Nat.le_of_ble_eq_true rfl) (fun hp8 => ?_)
      change G Z C a6.2 30 [(6, .int a6.1), (0, .ref (za Z i0)), (1, .int p1), (2, .int p2), (3, .ref (za Z i3)), (4, .int p4), (5, .int p5)] [.int q7, .int a6.1]
      refine g_icmp_ge 128 O dX12_says_30 (by decide) hf (fun c9 hf => ?_) (fun c9 hf => ?_)
      · have hf := hX6 _ hf
        exact hR _ hf _ _ dX12_says_128
      · refine g_iload O dX12_says_33 0 rfl ?_
        refine g_jn (fun (y10 : Mem) => G Z C y10 59 [(6, .int a6.1), (0, .ref (za Z i0)), (1, .int p1), (2, .int p2), (3, .ref (za Z i3)), (4, .int p4), (5, .int p5)] []) hf (fun y10 hf => ?_) (fun k10 hk10 hf => ?_)
        · refine g_aload_n O dX12_says_59 1 rfl rfl ?_
          refine g_iload_n O dX12_says_60 2 rfl rfl ?_
          refine g_iload O dX12_says_61 0 rfl ?_
          refine g_iload_n O dX12_says_63 3 rfl rfl ?_
          refine g_aload_n O dX12_says_64 4 rfl rfl ?_
          refine g_iload O dX12_says_65 5 rfl ?_
          refine g_iload O dX12_says_67 6 rfl ?_
          obtain ⟨q11, hq11, hf⟩ := k_obd hN6 hf
          refine g_callV (rest := []) O dX12_says_69 (ct_X12_formsAt hZ h0 h3 hq11) vx_RX12_173 h0 rfl rfl (by decide) (Nat.le_of_ble_eq_true rfl) (fun hp12 => ?_)
          change G Z C q11 72 [(6, .int a6.1), (0, .ref (za Z i0)), (1, .int p1), (2, .int p2), (3, .ref (za Z i3)), (4, .int p4), (5, .int p5)] []
          refine g_iconst O dX12_says_72 (0 : Int32) (by decide) ?_
          refine g_istoreP O dX12_says_73 (by decide) [(7, .int (0 : Int32)), (6, .int a6.1), (0, .ref (za Z i0)), (1, .int p1), (2, .int p2), (3, .ref (za Z i3)), (4, .int p4), (5, .int p5)] rfl ?_
          refine g_lp hN6 (fun (a13 : Int32 × Mem) => G Z C a13.2 75 [(7, .int a13.1), (6, .int a6.1), (0, .ref (za Z i0)), (1, .int p1), (2, .int p2), (3, .ref (za Z i3)), (4, .int p4), (5, .int p5)] []) hf (fun a13 _ hN13 hI13 hX13 hf => ?_)
          unfold sX12_says_75 at hf
          refine g_iload O dX12_says_75 0 rfl ?_
          refine g_aload_n O dX12_says_77 2 rfl rfl ?_
          refine g_getI O dX12_says_78 fx_RX12_84 h0 ?_
          refine g_icmp_ge 109 O dX12_says_81 (by decide) hf (fun c14 hf => ?_) (fun c14 hf => ?_)
          · have hf := hX13 _ hf
            refine g_aload_n O dX12_says_109 2 rfl rfl ?_
            refine g_dup O dX12_says_110 rfl ?_
            refine g_getI O dX12_says_111 fx_RX12_166 h0 ?_
            refine g_aload_n O dX12_says_114 2 rfl rfl ?_
            refine g_getI O dX12_says_115 fx_RX12_84 h0 ?_
            refine g_iadd O dX12_says_118 ?_
            refine g_putI O dX12_says_119 fp_RX12_166 h0 hf (fun m15 hf => ?_)
            refine g_iinc O dX12_says_122 1 rfl (by decide) (1) (by decide) (fun y => [(6, .int y), (7, .int a13.1), (0, .ref (za Z i0)), (1, .int p1), (2, .int p2), (3, .ref (za Z i3)), (4, .int p4), (5, .int p5)]) (fun _ => rfl) hf (fun x16 hf => ?_)
            refine g_goto 23 O dX12_says_125 (by decide) ?_
            refine g_sub [0, 2, 3, 4, 5, 6, 7] rfl ?_
            exact hI6 _ hf
          · refine g_aload_n O dX12_says_84 2 rfl rfl ?_
            refine g_getR O dX12_says_85 fx_RX12_25 h0 ?_
            refine g_aload_n O dX12_says_88 2 rfl rfl ?_
            refine g_getI O dX12_says_89 fx_RX12_166 h0 ?_
            refine g_iload O dX12_says_92 0 rfl ?_
            refine g_iadd O dX12_says_94 ?_
            refine g_aload_n O dX12_says_95 2 rfl rfl ?_
            refine g_getR O dX12_says_96 fx_RX12_19 h0 ?_
            refine g_iload O dX12_says_99 0 rfl ?_
            refine g_iald O hN13 dX12_says_101 (kf_12_5 h0) hf (fun hf => ?_)
            refine g_iast O hN13 dX12_says_102 (kf_12_10 h0) hf (fun m17 hf => ?_)
            refine g_iinc O dX12_says_103 0 rfl (by decide) (1) (by decide) (fun y => [(7, .int y), (6, .int a6.1), (0, .ref (za Z i0)), (1, .int p1), (2, .int p2), (3, .ref (za Z i3)), (4, .int p4), (5, .int p5)]) (fun _ => rfl) hf (fun x18 hf => ?_)
            refine g_goto 75 O dX12_says_106 (by decide) ?_
            exact hI13 _ hf
        · skip
          refine g_if_le 59 O dX12_says_35 (by decide) hf (fun c19 hf => ?_) (fun c19 hf => ?_)
          · exact hk10 _ hf
          · refine g_aload_n O dX12_says_38 1 rfl rfl ?_
            refine g_getR O dX12_says_39 fx_RX12_25 h0 ?_
            refine g_aload_n O dX12_says_42 1 rfl rfl ?_
            refine g_getI O dX12_says_43 fx_RX12_166 h0 ?_
            refine g_bipush O dX12_says_46 (32 : Int32) (by decide) ?_
            refine g_iast O hN6 dX12_says_48 (kf_12_10 h0) hf (fun m20 hf => ?_)
            refine g_aload_n O dX12_says_49 1 rfl rfl ?_
            refine g_dup O dX12_says_50 rfl ?_
            refine g_getI O dX12_says_51 fx_RX12_166 h0 ?_
            refine g_iconst O dX12_says_54 (1 : Int32) (by decide) ?_
            refine g_iadd O dX12_says_55 ?_
            refine g_putI O dX12_says_56 fp_RX12_166 h0 hf (fun m21 hf => ?_)
            exact hk10 _ hf

set_option maxHeartbeats 4000000 in
set_option maxRecDepth 100000 in
theorem ct_X12_numbers {Z : ZT} (hZ : ZOk Z) {σ : Mem} {i0 : Nat} (h0 : kn i0 = 12) {r : Int32} (hf : fX12_numbers σ i0 = some r) : Ct Z yX12_numbers cX12_numbers 1 (some .int) 0 0 [.ref (za Z i0)] σ (some (.int r)) True σ := by
  refine ct_i hZ (by decide +kernel) (Nat.le_of_ble_eq_true rfl) hf (fun C K O hN hR hf => ?_)
  have O : Ok Z C RX12 cX12_numbers 1 0 0 := O
  change G Z C σ 0 [(0, .ref (za Z i0))] []
  unfold fX12_numbers at hf
  refine g_aload_n O dX12_numbers_0 0 rfl rfl ?_
  refine g_getR O dX12_numbers_1 fx_RX12_9 h0 ?_
  refine g_iconst O dX12_numbers_4 (4 : Int32) (by decide) ?_
  refine g_iald O hN dX12_numbers_5 (kf_12_0 h0) hf (fun hf => ?_)
  refine g_aload_n O dX12_numbers_6 0 rfl rfl ?_
  refine g_getR O dX12_numbers_7 fx_RX12_9 h0 ?_
  refine g_iconst O dX12_numbers_10 (5 : Int32) (by decide) ?_
  refine g_iald O hN dX12_numbers_11 (kf_12_0 h0) hf (fun hf => ?_)
  refine g_iconst O dX12_numbers_12 (1 : Int32) (by decide) ?_
  refine g_ishl O dX12_numbers_13 ?_
  refine g_ior O dX12_numbers_14 ?_
  refine g_aload_n O dX12_numbers_15 0 rfl rfl ?_
  refine g_getR O dX12_numbers_16 fx_RX12_9 h0 ?_
  refine g_bipush O dX12_numbers_19 (6 : Int32) (by decide) ?_
  refine g_iald O hN dX12_numbers_21 (kf_12_0 h0) hf (fun hf => ?_)
  refine g_iconst O dX12_numbers_22 (2 : Int32) (by decide) ?_
  refine g_ishl O dX12_numbers_23 ?_
  refine g_ior O dX12_numbers_24 ?_
  exact hR _ hf _ _ dX12_numbers_25

set_option maxHeartbeats 4000000 in
set_option maxRecDepth 100000 in
theorem ct_X12_saysDesk {Z : ZT} (hZ : ZOk Z) {σ : Mem} {i0 : Nat} {p1 : Int32} {p2 : Int32} (h0 : kn i0 = 12) {r : Mem} (hf : fX12_saysDesk σ i0 p1 p2 = some r) : Ct Z yX12_saysDesk cX12_saysDesk 3 none 6 148 [.ref (za Z i0), .int p1, .int p2] σ none True r := by
  refine ct_v hZ (by decide +kernel) (Nat.le_of_ble_eq_true rfl) hf (fun C K O hN hR hf => ?_)
  have O : Ok Z C RX12 cX12_saysDesk 3 6 148 := O
  change G Z C σ 0 [(0, .ref (za Z i0)), (1, .int p1), (2, .int p2)] []
  unfold fX12_saysDesk at hf
  refine g_aload_n O dX12_saysDesk_0 0 rfl rfl ?_
  refine g_aload_n O dX12_saysDesk_1 0 rfl rfl ?_
  refine g_getR O dX12_saysDesk_2 fx_RX12_9 h0 ?_
  refine g_iconst O dX12_saysDesk_5 (2 : Int32) (by decide) ?_
  refine g_iald O hN dX12_saysDesk_6 (kf_12_0 h0) hf (fun hf => ?_)
  refine g_bipush O dX12_saysDesk_7 (7 : Int32) (by decide) ?_
  refine g_aload_n O dX12_saysDesk_9 0 rfl rfl ?_
  refine g_getR O dX12_saysDesk_10 fx_RX12_9 h0 ?_
  refine g_iload_n O dX12_saysDesk_13 1 rfl rfl ?_
  refine g_iload_n O dX12_saysDesk_14 2 rfl rfl ?_
  obtain ⟨q1, hq1, hf⟩ := k_obd hN hf
  refine g_callV (rest := []) O dX12_saysDesk_15 (ct_X12_says hZ h0 (kf_12_0 h0) hq1) vx_RX12_177 h0 rfl rfl (by decide) (Nat.le_of_ble_eq_true rfl) (fun hp2 => ?_)
  change G Z C q1 18 [(0, .ref (za Z i0)), (1, .int p1), (2, .int p2)] []
  exact hR _ hf _ _ dX12_saysDesk_18

set_option maxHeartbeats 4000000 in
set_option maxRecDepth 100000 in
theorem ct_X12_saysDesk_ {Z : ZT} (hZ : ZOk Z) {σ : Mem} {i0 : Nat} (h0 : kn i0 = 12) {r : Mem} (hf : fX12_saysDesk_ σ i0 = some r) : Ct Z yX12_saysDesk_ cX12_saysDesk_ 1 none 7 170 [.ref (za Z i0)] σ none True r := by
  refine ct_v hZ (by decide +kernel) (Nat.le_of_ble_eq_true rfl) hf (fun C K O hN hR hf => ?_)
  have O : Ok Z C RX12 cX12_saysDesk_ 1 7 170 := O
  change G Z C σ 0 [(0, .ref (za Z i0))] []
  unfold fX12_saysDesk_ at hf
  refine g_aload_n O dX12_saysDesk__0 0 rfl rfl ?_
  refine g_aload_n O dX12_saysDesk__1 0 rfl rfl ?_
  obtain ⟨q1, hq1, hf⟩ := k_obd hN hf
  refine g_callV (rest := [.ref (za Z i0)]) O dX12_saysDesk__2 (ct_X12_numbers hZ h0 hq1) vx_RX12_181 h0 rfl rfl (by decide) (Nat.le_of_ble_eq_true rfl) (fun hp2 => ?_)
  change G Z C σ 5 [(0, .ref (za Z i0))] [.int q1, .ref (za Z i0)]
  refine g_aload_n O dX12_saysDesk__5 0 rfl rfl ?_
  refine g_getR O dX12_saysDesk__6 fx_RX12_9 h0 ?_
  refine g_iconst O dX12_saysDesk__9 (3 : Int32) (by decide) ?_
  refine g_iald O hN dX12_saysDesk__10 (kf_12_0 h0) hf (fun hf => ?_)
  obtain ⟨q3, hq3, hf⟩ := k_obd hN hf
  refine g_callV (rest := []) O dX12_saysDesk__11 (ct_X12_saysDesk hZ h0 hq3) vx_RX12_185 h0 rfl rfl (by decide) (Nat.le_of_ble_eq_true rfl) (fun hp4 => ?_)
  change G Z C q3 14 [(0, .ref (za Z i0))] []
  exact hR _ hf _ _ dX12_saysDesk__14

set_option maxHeartbeats 4000000 in
set_option maxRecDepth 100000 in
theorem ct_X12_ableAt {Z : ZT} (hZ : ZOk Z) {σ : Mem} {i0 : Nat} {p1 : Int32} {p2 : Int32} {p3 : Int32} (h0 : kn i0 = 12) {r : Int32} (hf : fX12_ableAt σ i0 p1 p2 p3 = some r) : Ct Z yX12_ableAt cX12_ableAt 6 (some .int) 2 48 [.ref (za Z i0), .int p1, .int p2, .int p3] σ (some (.int r)) True σ := by
  refine ct_i hZ (by decide +kernel) (Nat.le_of_ble_eq_true rfl) hf (fun C K O hN hR hf => ?_)
  have O : Ok Z C RX12 cX12_ableAt 6 2 48 := O
  change G Z C σ 0 [(0, .ref (za Z i0)), (1, .int p1), (2, .int p2), (3, .int p3)] []
  unfold fX12_ableAt at hf
  refine g_iload_n O dX12_ableAt_0 3 rfl rfl ?_
  refine g_istoreP O dX12_ableAt_1 (by decide) [(4, .int p3), (0, .ref (za Z i0)), (1, .int p1), (2, .int p2), (3, .int p3)] rfl ?_
  refine g_iconst O dX12_ableAt_3 (0 : Int32) (by decide) ?_
  refine g_istoreP O dX12_ableAt_4 (by decide) [(5, .int (0 : Int32)), (4, .int p3), (0, .ref (za Z i0)), (1, .int p1), (2, .int p2), (3, .int p3)] rfl ?_
  refine g_sub [0, 1, 2, 3, 4] rfl ?_
  refine g_lp hN (fun (a1 : Int32 × Int32) => G Z C σ 6 [(5, .int a1.1), (4, .int a1.2), (0, .ref (za Z i0)), (1, .int p1), (2, .int p2)] []) hf (fun a1 _ hN1 hI1 hX1 hf => ?_)
  unfold sX12_ableAt_6 at hf
  refine g_iload O dX12_ableAt_6 0 rfl ?_
  refine g_aload_n O dX12_ableAt_8 2 rfl rfl ?_
  refine g_getR O dX12_ableAt_9 fx_RX12_9 h0 ?_
  refine g_iconst O dX12_ableAt_12 (0 : Int32) (by decide) ?_
  refine g_iald O hN1 dX12_ableAt_13 (kf_12_0 h0) hf (fun hf => ?_)
  refine g_icmp_ge 53 O dX12_ableAt_14 (by decide) hf (fun c2 hf => ?_) (fun c2 hf => ?_)
  · have hf := hX1 _ hf
    refine g_iconst O dX12_ableAt_53 (-1 : Int32) (by decide) ?_
    exact hR _ hf _ _ dX12_ableAt_54
  · refine g_iload O dX12_ableAt_17 1 rfl ?_
    refine g_if_lt 53 O dX12_ableAt_19 (by decide) hf (fun c3 hf => ?_) (fun c3 hf => ?_)
    · have hf := hX1 _ hf
      refine g_iconst O dX12_ableAt_53 (-1 : Int32) (by decide) ?_
      exact hR _ hf _ _ dX12_ableAt_54
    · refine g_aload_n O dX12_ableAt_22 2 rfl rfl ?_
      refine g_iload_n O dX12_ableAt_23 3 rfl rfl ?_
      refine g_iload_n O dX12_ableAt_24 4 rfl rfl ?_
      refine g_iload O dX12_ableAt_25 0 rfl ?_
      obtain ⟨q4, hq4, hf⟩ := k_obd hN1 hf
      refine g_callV (rest := []) O dX12_ableAt_27 (ct_X12_canBe hZ h0 hq4) vx_RX12_148 h0 rfl rfl (by decide) (Nat.le_of_ble_eq_true rfl) (fun hp5 => ?_)
      change G Z C σ 30 [(5, .int a1.1), (4, .int a1.2), (0, .ref (za Z i0)), (1, .int p1), (2, .int p2)] [.int q4]
      refine g_if_ne 36 O dX12_ableAt_30 (by decide) hf (fun c6 hf => ?_) (fun c6 hf => ?_)
      · refine g_goto 47 O dX12_ableAt_33 (by decide) ?_
        refine g_iinc O dX12_ableAt_47 0 rfl (by decide) (1) (by decide) (fun y => [(5, .int y), (4, .int a1.2), (0, .ref (za Z i0)), (1, .int p1), (2, .int p2)]) (fun _ => rfl) hf (fun x7 hf => ?_)
        refine g_goto 6 O dX12_ableAt_50 (by decide) ?_
        exact hI1 _ hf
      · refine g_iload O dX12_ableAt_36 1 rfl ?_
        refine g_if_ne 44 O dX12_ableAt_38 (by decide) hf (fun c8 hf => ?_) (fun c8 hf => ?_)
        · have hf := hX1 _ hf
          refine g_iload O dX12_ableAt_41 0 rfl ?_
          exact hR _ hf _ _ dX12_ableAt_43
        · refine g_iinc O dX12_ableAt_44 1 rfl (by decide) (-1) (by decide) (fun y => [(4, .int y), (5, .int a1.1), (0, .ref (za Z i0)), (1, .int p1), (2, .int p2)]) (fun _ => rfl) hf (fun x9 hf => ?_)
          refine g_iinc O dX12_ableAt_47 1 rfl (by decide) (1) (by decide) (fun y => [(5, .int y), (4, .int x9), (0, .ref (za Z i0)), (1, .int p1), (2, .int p2)]) (fun _ => rfl) hf (fun x10 hf => ?_)
          refine g_goto 6 O dX12_ableAt_50 (by decide) ?_
          exact hI1 _ hf

set_option maxHeartbeats 4000000 in
set_option maxRecDepth 100000 in
theorem ct_X12_desk {Z : ZT} (hZ : ZOk Z) {σ : Mem} {i0 : Nat} {p1 : Int32} {p2 : Int32} (h0 : kn i0 = 12) {r : (Int32 × Mem)} (hf : fX12_desk σ i0 p1 p2 = some r) : Ct Z yX12_desk cX12_desk 4 (some .int) 3 73 [.ref (za Z i0), .int p1, .int p2] σ (some (.int r.1)) True r.2 := by
  refine ct_im hZ (by decide +kernel) (Nat.le_of_ble_eq_true rfl) hf (fun C K O hN hR hf => ?_)
  have O : Ok Z C RX12 cX12_desk 4 3 73 := O
  change G Z C σ 0 [(0, .ref (za Z i0)), (1, .int p1), (2, .int p2)] []
  unfold fX12_desk at hf
  refine g_aload_n O dX12_desk_0 0 rfl rfl ?_
  refine g_iload_n O dX12_desk_1 1 rfl rfl ?_
  obtain ⟨q1, hq1, hf⟩ := k_obd hN hf
  refine g_callV (rest := []) O dX12_desk_2 (ct_X12_isFrame hZ h0 hq1) vx_RX12_151 h0 rfl rfl (by decide) (Nat.le_of_ble_eq_true rfl) (fun hp2 => ?_)
  change G Z C σ 5 [(0, .ref (za Z i0)), (1, .int p1), (2, .int p2)] [.int q1]
  refine g_if_eq 17 O dX12_desk_5 (by decide) hf (fun c3 hf => ?_) (fun c3 hf => ?_)
  · refine g_bipush O dX12_desk_17 (-2 : Int32) (by decide) ?_
    exact hR _ _ hf _ _ dX12_desk_19
  · refine g_iload_n O dX12_desk_8 2 rfl rfl ?_
    refine g_iconst O dX12_desk_9 (0 : Int32) (by decide) ?_
    refine g_iconst O dX12_desk_10 (3 : Int32) (by decide) ?_
    obtain ⟨q4, hq4, hf⟩ := k_obd hN hf
    refine g_callS (rest := []) O dX12_desk_11 (ct_X12_isIn hZ  hq4) sx_RX12_64 rfl rfl (by decide) (Nat.le_of_ble_eq_true rfl) (fun hp5 => ?_)
    change G Z C σ 14 [(0, .ref (za Z i0)), (1, .int p1), (2, .int p2)] [.int q4]
    refine g_if_ne 20 O dX12_desk_14 (by decide) hf (fun c6 hf => ?_) (fun c6 hf => ?_)
    · refine g_bipush O dX12_desk_17 (-2 : Int32) (by decide) ?_
      exact hR _ _ hf _ _ dX12_desk_19
    · refine g_aload_n O dX12_desk_20 0 rfl rfl ?_
      refine g_getR O dX12_desk_21 fx_RX12_9 h0 ?_
      refine g_iconst O dX12_desk_24 (2 : Int32) (by decide) ?_
      refine g_iload_n O dX12_desk_25 1 rfl rfl ?_
      refine g_iast O hN dX12_desk_26 (kf_12_0 h0) hf (fun m7 hf => ?_)
      refine g_aload_n O dX12_desk_27 0 rfl rfl ?_
      refine g_getR O dX12_desk_28 fx_RX12_9 h0 ?_
      refine g_iconst O dX12_desk_31 (3 : Int32) (by decide) ?_
      refine g_iload_n O dX12_desk_32 2 rfl rfl ?_
      refine g_iast O hN dX12_desk_33 (kf_12_0 h0) hf (fun m8 hf => ?_)
      refine g_iconst O dX12_desk_34 (0 : Int32) (by decide) ?_
      refine g_istore_nP O dX12_desk_35 rfl (by decide) [(3, .int (0 : Int32)), (0, .ref (za Z i0)), (1, .int p1), (2, .int p2)] rfl ?_
      refine g_sub [0, 1, 2] rfl ?_
      refine g_lp hN (fun (a9 : Int32 × Mem) => G Z C a9.2 36 [(3, .int a9.1), (0, .ref (za Z i0)), (1, .int p1)] []) hf (fun a9 _ hN9 hI9 hX9 hf => ?_)
      unfold sX12_desk_36 at hf
      refine g_iload_n O dX12_desk_36 0 rfl rfl ?_
      refine g_iconst O dX12_desk_37 (3 : Int32) (by decide) ?_
      refine g_icmp_ge 56 O dX12_desk_38 (by decide) hf (fun c10 hf => ?_) (fun c10 hf => ?_)
      · have hf := hX9 _ hf
        refine g_iconst O dX12_desk_56 (0 : Int32) (by decide) ?_
        refine g_istore_nP O dX12_desk_57 rfl (by decide) [(3, .int (0 : Int32)), (0, .ref (za Z i0)), (1, .int p1)] rfl ?_
        refine g_lp hN (fun (a11 : Int32 × Mem) => G Z C a11.2 58 [(3, .int a11.1), (0, .ref (za Z i0)), (1, .int p1)] []) hf (fun a11 _ hN11 hI11 hX11 hf => ?_)
        unfold sX12_desk_58 at hf
        refine g_iload_n O dX12_desk_58 0 rfl rfl ?_
        refine g_aload_n O dX12_desk_59 1 rfl rfl ?_
        refine g_iload_n O dX12_desk_60 2 rfl rfl ?_
        obtain ⟨q12, hq12, hf⟩ := k_obd hN11 hf
        refine g_callV (rest := [.int a11.1]) O dX12_desk_61 (ct_X12_holes hZ h0 hq12) vx_RX12_154 h0 rfl rfl (by decide) (Nat.le_of_ble_eq_true rfl) (fun hp13 => ?_)
        change G Z C a11.2 64 [(3, .int a11.1), (0, .ref (za Z i0)), (1, .int p1)] [.int q12, .int a11.1]
        refine g_icmp_ge 89 O dX12_desk_64 (by decide) hf (fun c14 hf => ?_) (fun c14 hf => ?_)
        · have hf := hX11 _ hf
          refine g_aload_n O dX12_desk_89 1 rfl rfl ?_
          refine g_iload_n O dX12_desk_90 2 rfl rfl ?_
          obtain ⟨q15, hq15, hf⟩ := k_obd hN hf
          refine g_callV (rest := []) O dX12_desk_91 (ct_X12_holes hZ h0 hq15) vx_RX12_154 h0 rfl rfl (by decide) (Nat.le_of_ble_eq_true rfl) (fun hp16 => ?_)
          change G Z C a11.2 94 [(3, .int a11.1), (0, .ref (za Z i0)), (1, .int p1)] [.int q15]
          exact hR _ _ hf _ _ dX12_desk_94
        · refine g_aload_n O dX12_desk_67 1 rfl rfl ?_
          refine g_getR O dX12_desk_68 fx_RX12_9 h0 ?_
          refine g_bipush O dX12_desk_71 (7 : Int32) (by decide) ?_
          refine g_iload_n O dX12_desk_73 0 rfl rfl ?_
          refine g_iadd O dX12_desk_74 ?_
          refine g_aload_n O dX12_desk_75 1 rfl rfl ?_
          refine g_iload_n O dX12_desk_76 2 rfl rfl ?_
          refine g_iload_n O dX12_desk_77 0 rfl rfl ?_
          refine g_iconst O dX12_desk_78 (0 : Int32) (by decide) ?_
          obtain ⟨q17, hq17, hf⟩ := k_obd hN11 hf
          refine g_callV (rest := [.int ((7 : Int32) + a11.1), .ref (za Z (i0 + 1))]) O dX12_desk_79 (ct_X12_ableAt hZ h0 hq17) vx_RX12_189 h0 rfl rfl (by decide) (Nat.le_of_ble_eq_true rfl) (fun hp18 => ?_)
          change G Z C a11.2 82 [(3, .int a11.1), (0, .ref (za Z i0)), (1, .int p1)] [.int q17, .int ((7 : Int32) + a11.1), .ref (za Z (i0 + 1))]
          refine g_iast O hN11 dX12_desk_82 (kf_12_0 h0) hf (fun m19 hf => ?_)
          refine g_iinc O dX12_desk_83 0 rfl (by decide) (1) (by decide) (fun y => [(3, .int y), (0, .ref (za Z i0)), (1, .int p1)]) (fun _ => rfl) hf (fun x20 hf => ?_)
          refine g_goto 58 O dX12_desk_86 (by decide) ?_
          exact hI11 _ hf
      · refine g_aload_n O dX12_desk_41 1 rfl rfl ?_
        refine g_getR O dX12_desk_42 fx_RX12_9 h0 ?_
        refine g_iconst O dX12_desk_45 (4 : Int32) (by decide) ?_
        refine g_iload_n O dX12_desk_46 0 rfl rfl ?_
        refine g_iadd O dX12_desk_47 ?_
        refine g_iconst O dX12_desk_48 (0 : Int32) (by decide) ?_
        refine g_iast O hN9 dX12_desk_49 (kf_12_0 h0) hf (fun m21 hf => ?_)
        refine g_iinc O dX12_desk_50 0 rfl (by decide) (1) (by decide) (fun y => [(3, .int y), (0, .ref (za Z i0)), (1, .int p1)]) (fun _ => rfl) hf (fun x22 hf => ?_)
        refine g_goto 36 O dX12_desk_53 (by decide) ?_
        exact hI9 _ hf

set_option maxHeartbeats 4000000 in
set_option maxRecDepth 100000 in
theorem ct_X12_choose {Z : ZT} (hZ : ZOk Z) {σ : Mem} {i0 : Nat} {p1 : Int32} {p2 : Int32} (h0 : kn i0 = 12) {r : (Int32 × Mem)} (hf : fX12_choose σ i0 p1 p2 = some r) : Ct Z yX12_choose cX12_choose 4 (some .int) 2 48 [.ref (za Z i0), .int p1, .int p2] σ (some (.int r.1)) True r.2 := by
  refine ct_im hZ (by decide +kernel) (Nat.le_of_ble_eq_true rfl) hf (fun C K O hN hR hf => ?_)
  have O : Ok Z C RX12 cX12_choose 4 2 48 := O
  change G Z C σ 0 [(0, .ref (za Z i0)), (1, .int p1), (2, .int p2)] []
  unfold fX12_choose at hf
  refine g_aload_n O dX12_choose_0 0 rfl rfl ?_
  refine g_iload_n O dX12_choose_1 2 rfl rfl ?_
  obtain ⟨q1, hq1, hf⟩ := k_obd hN hf
  refine g_callV (rest := []) O dX12_choose_2 (ct_X12_isWord hZ h0 hq1) vx_RX12_98 h0 rfl rfl (by decide) (Nat.le_of_ble_eq_true rfl) (fun hp2 => ?_)
  change G Z C σ 5 [(0, .ref (za Z i0)), (1, .int p1), (2, .int p2)] [.int q1]
  refine g_if_ne 11 O dX12_choose_5 (by decide) hf (fun c3 hf => ?_) (fun c3 hf => ?_)
  · refine g_bipush O dX12_choose_8 (-2 : Int32) (by decide) ?_
    exact hR _ _ hf _ _ dX12_choose_10
  · refine g_aload_n O dX12_choose_11 0 rfl rfl ?_
    refine g_getR O dX12_choose_12 fx_RX12_9 h0 ?_
    refine g_iconst O dX12_choose_15 (2 : Int32) (by decide) ?_
    refine g_iald O hN dX12_choose_16 (kf_12_0 h0) hf (fun hf => ?_)
    refine g_if_ge 23 O dX12_choose_17 (by decide) hf (fun c4 hf => ?_) (fun c4 hf => ?_)
    · refine g_iload_n O dX12_choose_23 1 rfl rfl ?_
      refine g_iconst O dX12_choose_24 (0 : Int32) (by decide) ?_
      refine g_aload_n O dX12_choose_25 0 rfl rfl ?_
      refine g_aload_n O dX12_choose_26 0 rfl rfl ?_
      refine g_getR O dX12_choose_27 fx_RX12_9 h0 ?_
      refine g_iconst O dX12_choose_30 (2 : Int32) (by decide) ?_
      refine g_iald O hN dX12_choose_31 (kf_12_0 h0) hf (fun hf => ?_)
      obtain ⟨q5, hq5, hf⟩ := k_obd hN hf
      refine g_callV (rest := [.int (0 : Int32), .int p1]) O dX12_choose_32 (ct_X12_holes hZ h0 hq5) vx_RX12_154 h0 rfl rfl (by decide) (Nat.le_of_ble_eq_true rfl) (fun hp6 => ?_)
      change G Z C σ 35 [(0, .ref (za Z i0)), (1, .int p1), (2, .int p2)] [.int q5, .int (0 : Int32), .int p1]
      refine g_iconst O dX12_choose_35 (1 : Int32) (by decide) ?_
      refine g_isub O dX12_choose_36 ?_
      obtain ⟨q7, hq7, hf⟩ := k_obd hN hf
      refine g_callS (rest := []) O dX12_choose_37 (ct_X12_isIn hZ  hq7) sx_RX12_64 rfl rfl (by decide) (Nat.le_of_ble_eq_true rfl) (fun hp8 => ?_)
      change G Z C σ 40 [(0, .ref (za Z i0)), (1, .int p1), (2, .int p2)] [.int q7]
      refine g_if_ne 46 O dX12_choose_40 (by decide) hf (fun c9 hf => ?_) (fun c9 hf => ?_)
      · refine g_bipush O dX12_choose_43 (-12 : Int32) (by decide) ?_
        exact hR _ _ hf _ _ dX12_choose_45
      · refine g_aload_n O dX12_choose_46 0 rfl rfl ?_
        refine g_aload_n O dX12_choose_47 0 rfl rfl ?_
        refine g_getR O dX12_choose_48 fx_RX12_9 h0 ?_
        refine g_iconst O dX12_choose_51 (2 : Int32) (by decide) ?_
        refine g_iald O hN dX12_choose_52 (kf_12_0 h0) hf (fun hf => ?_)
        refine g_iload_n O dX12_choose_53 1 rfl rfl ?_
        refine g_iload_n O dX12_choose_54 2 rfl rfl ?_
        obtain ⟨q10, hq10, hf⟩ := k_obd hN hf
        refine g_callV (rest := []) O dX12_choose_55 (ct_X12_canBe hZ h0 hq10) vx_RX12_148 h0 rfl rfl (by decide) (Nat.le_of_ble_eq_true rfl) (fun hp11 => ?_)
        change G Z C σ 58 [(0, .ref (za Z i0)), (1, .int p1), (2, .int p2)] [.int q10]
        refine g_if_ne 64 O dX12_choose_58 (by decide) hf (fun c12 hf => ?_) (fun c12 hf => ?_)
        · refine g_bipush O dX12_choose_61 (-13 : Int32) (by decide) ?_
          exact hR _ _ hf _ _ dX12_choose_63
        · refine g_aload_n O dX12_choose_64 0 rfl rfl ?_
          refine g_getR O dX12_choose_65 fx_RX12_9 h0 ?_
          refine g_bipush O dX12_choose_68 (7 : Int32) (by decide) ?_
          refine g_iload_n O dX12_choose_70 1 rfl rfl ?_
          refine g_iadd O dX12_choose_71 ?_
          refine g_iald O hN dX12_choose_72 (kf_12_0 h0) hf (fun hf => ?_)
          refine g_istore_n O dX12_choose_73 rfl (by decide) (fun y => [(3, .int y), (0, .ref (za Z i0)), (1, .int p1), (2, .int p2)]) (fun _ => rfl) hf (fun x13 hf => ?_)
          refine g_aload_n O dX12_choose_74 1 rfl rfl ?_
          refine g_getR O dX12_choose_75 fx_RX12_9 h0 ?_
          refine g_bipush O dX12_choose_78 (7 : Int32) (by decide) ?_
          refine g_iload_n O dX12_choose_80 2 rfl rfl ?_
          refine g_iadd O dX12_choose_81 ?_
          refine g_iload_n O dX12_choose_82 3 rfl rfl ?_
          refine g_iast O hN dX12_choose_83 (kf_12_0 h0) hf (fun m14 hf => ?_)
          refine g_iload_n O dX12_choose_84 0 rfl rfl ?_
          exact hR _ _ hf _ _ dX12_choose_85
    · refine g_bipush O dX12_choose_20 (-3 : Int32) (by decide) ?_
      exact hR _ _ hf _ _ dX12_choose_22

set_option maxHeartbeats 4000000 in
set_option maxRecDepth 100000 in
theorem ct_X12_number {Z : ZT} (hZ : ZOk Z) {σ : Mem} {i0 : Nat} {p1 : Int32} {p2 : Int32} (h0 : kn i0 = 12) {r : (Int32 × Mem)} (hf : fX12_number σ i0 p1 p2 = some r) : Ct Z yX12_number cX12_number 4 (some .int) 1 22 [.ref (za Z i0), .int p1, .int p2] σ (some (.int r.1)) True r.2 := by
  refine ct_im hZ (by decide +kernel) (Nat.le_of_ble_eq_true rfl) hf (fun C K O hN hR hf => ?_)
  have O : Ok Z C RX12 cX12_number 4 1 22 := O
  change G Z C σ 0 [(0, .ref (za Z i0)), (1, .int p1), (2, .int p2)] []
  unfold fX12_number at hf
  refine g_iload_n O dX12_number_0 1 rfl rfl ?_
  refine g_iconst O dX12_number_1 (0 : Int32) (by decide) ?_
  refine g_iconst O dX12_number_2 (2 : Int32) (by decide) ?_
  obtain ⟨q1, hq1, hf⟩ := k_obd hN hf
  refine g_callS (rest := []) O dX12_number_3 (ct_X12_isIn hZ  hq1) sx_RX12_64 rfl rfl (by decide) (Nat.le_of_ble_eq_true rfl) (fun hp2 => ?_)
  change G Z C σ 6 [(0, .ref (za Z i0)), (1, .int p1), (2, .int p2)] [.int q1]
  refine g_if_eq 18 O dX12_number_6 (by decide) hf (fun c3 hf => ?_) (fun c3 hf => ?_)
  · refine g_bipush O dX12_number_18 (-2 : Int32) (by decide) ?_
    exact hR _ _ hf _ _ dX12_number_20
  · refine g_iload_n O dX12_number_9 2 rfl rfl ?_
    refine g_iconst O dX12_number_10 (0 : Int32) (by decide) ?_
    refine g_iconst O dX12_number_11 (1 : Int32) (by decide) ?_
    obtain ⟨q4, hq4, hf⟩ := k_obd hN hf
    refine g_callS (rest := []) O dX12_number_12 (ct_X12_isIn hZ  hq4) sx_RX12_64 rfl rfl (by decide) (Nat.le_of_ble_eq_true rfl) (fun hp5 => ?_)
    change G Z C σ 15 [(0, .ref (za Z i0)), (1, .int p1), (2, .int p2)] [.int q4]
    refine g_if_ne 21 O dX12_number_15 (by decide) hf (fun c6 hf => ?_) (fun c6 hf => ?_)
    · refine g_bipush O dX12_number_18 (-2 : Int32) (by decide) ?_
      exact hR _ _ hf _ _ dX12_number_20
    · refine g_aload_n O dX12_number_21 0 rfl rfl ?_
      refine g_getR O dX12_number_22 fx_RX12_9 h0 ?_
      refine g_iconst O dX12_number_25 (2 : Int32) (by decide) ?_
      refine g_iald O hN dX12_number_26 (kf_12_0 h0) hf (fun hf => ?_)
      refine g_if_ge 33 O dX12_number_27 (by decide) hf (fun c7 hf => ?_) (fun c7 hf => ?_)
      · refine g_aload_n O dX12_number_33 0 rfl rfl ?_
        refine g_getR O dX12_number_34 fx_RX12_9 h0 ?_
        refine g_iconst O dX12_number_37 (4 : Int32) (by decide) ?_
        refine g_iload_n O dX12_number_38 1 rfl rfl ?_
        refine g_iadd O dX12_number_39 ?_
        refine g_iald O hN dX12_number_40 (kf_12_0 h0) hf (fun hf => ?_)
        refine g_istore_n O dX12_number_41 rfl (by decide) (fun y => [(3, .int y), (0, .ref (za Z i0)), (1, .int p1), (2, .int p2)]) (fun _ => rfl) hf (fun x8 hf => ?_)
        refine g_aload_n O dX12_number_42 1 rfl rfl ?_
        refine g_getR O dX12_number_43 fx_RX12_9 h0 ?_
        refine g_iconst O dX12_number_46 (4 : Int32) (by decide) ?_
        refine g_iload_n O dX12_number_47 2 rfl rfl ?_
        refine g_iadd O dX12_number_48 ?_
        refine g_iload_n O dX12_number_49 3 rfl rfl ?_
        refine g_iast O hN dX12_number_50 (kf_12_0 h0) hf (fun m9 hf => ?_)
        refine g_iload_n O dX12_number_51 0 rfl rfl ?_
        exact hR _ _ hf _ _ dX12_number_52
      · refine g_bipush O dX12_number_30 (-3 : Int32) (by decide) ?_
        exact hR _ _ hf _ _ dX12_number_32

set_option maxHeartbeats 4000000 in
set_option maxRecDepth 100000 in
theorem ct_X12_said {Z : ZT} (hZ : ZOk Z) {σ : Mem} {i0 : Nat} {p1 : Int32} (h0 : kn i0 = 12) {r : (Int32 × Mem)} (hf : fX12_said σ i0 p1 = some r) : Ct Z yX12_said cX12_said 2 (some .int) 8 190 [.ref (za Z i0), .int p1] σ (some (.int r.1)) True r.2 := by
  refine ct_im hZ (by decide +kernel) (Nat.le_of_ble_eq_true rfl) hf (fun C K O hN hR hf => ?_)
  have O : Ok Z C RX12 cX12_said 2 8 190 := O
  change G Z C σ 0 [(0, .ref (za Z i0)), (1, .int p1)] []
  unfold fX12_said at hf
  refine g_aload_n O dX12_said_0 0 rfl rfl ?_
  obtain ⟨q1, hq1, hf⟩ := k_obd hN hf
  refine g_callV (rest := []) O dX12_said_1 (ct_X12_saysDesk_ hZ h0 hq1) vx_RX12_192 h0 rfl rfl (by decide) (Nat.le_of_ble_eq_true rfl) (fun hp2 => ?_)
  change G Z C q1 4 [(0, .ref (za Z i0)), (1, .int p1)] []
  refine g_iload_n O dX12_said_4 1 rfl rfl ?_
  refine g_iconst O dX12_said_5 (-1 : Int32) (by decide) ?_
  refine g_icmp_ne 16 O dX12_said_6 (by decide) hf (fun c3 hf => ?_) (fun c3 hf => ?_)
  · refine g_aload_n O dX12_said_9 0 rfl rfl ?_
    refine g_getI O dX12_said_10 fx_RX12_166 h0 ?_
    refine g_goto 41 O dX12_said_13 (by decide) ?_
    exact hR _ _ hf _ _ dX12_said_41
  · refine g_iload_n O dX12_said_16 1 rfl rfl ?_
    refine g_iconst O dX12_said_17 (0 : Int32) (by decide) ?_
    refine g_aload_n O dX12_said_18 0 rfl rfl ?_
    refine g_getI O dX12_said_19 fx_RX12_166 h0 ?_
    refine g_iconst O dX12_said_22 (1 : Int32) (by decide) ?_
    refine g_isub O dX12_said_23 ?_
    obtain ⟨q4, hq4, hf⟩ := k_obd hN hf
    refine g_callS (rest := []) O dX12_said_24 (ct_X12_isIn hZ  hq4) sx_RX12_64 rfl rfl (by decide) (Nat.le_of_ble_eq_true rfl) (fun hp5 => ?_)
    change G Z C q1 27 [(0, .ref (za Z i0)), (1, .int p1)] [.int q4]
    refine g_if_eq 39 O dX12_said_27 (by decide) hf (fun c6 hf => ?_) (fun c6 hf => ?_)
    · refine g_bipush O dX12_said_39 (-12 : Int32) (by decide) ?_
      exact hR _ _ hf _ _ dX12_said_41
    · refine g_aload_n O dX12_said_30 0 rfl rfl ?_
      refine g_getR O dX12_said_31 fx_RX12_25 h0 ?_
      refine g_iload_n O dX12_said_34 1 rfl rfl ?_
      refine g_iald O hN dX12_said_35 (kf_12_10 h0) hf (fun hf => ?_)
      refine g_goto 41 O dX12_said_36 (by decide) ?_
      exact hR _ _ hf _ _ dX12_said_41

set_option maxHeartbeats 4000000 in
set_option maxRecDepth 100000 in
theorem ct_Jxf58ca_isNaN_12338 {Z : ZT} (hZ : ZOk Z) {σ : Mem} {p0 : UInt32}  {r : Int32} (hf : fJxf58ca_isNaN_12338 σ p0 = some r) : Ct Z yJxf58ca_isNaN_12338 cJxf58ca_isNaN_12338 1 (some .boolean) 0 0 [.float p0] σ (some (.int r)) (r = 0 ∨ r = 1) σ := by
  refine ct_z hZ (by decide +kernel) (Nat.le_of_ble_eq_true rfl) hf (fun C K O hN hR hf => ?_)
  have O : Ok Z C RJxf58ca cJxf58ca_isNaN_12338 1 0 0 := O
  change G Z C σ 0 [(0, .float p0)] []
  unfold fJxf58ca_isNaN_12338 at hf
  refine g_fload_n O dJxf58ca_isNaN_12338_0 0 rfl rfl ?_
  refine g_fload_n O dJxf58ca_isNaN_12338_1 0 rfl rfl ?_
  refine g_fcmp O dJxf58ca_isNaN_12338_2 ?_
  refine g_if_eq 10 O dJxf58ca_isNaN_12338_3 (by decide) hf (fun c1 hf => ?_) (fun c1 hf => ?_)
  · refine g_iconst O dJxf58ca_isNaN_12338_10 (0 : Int32) (by decide) ?_
    exact hR _ hf (Or.inl rfl) _ _ dJxf58ca_isNaN_12338_11
  · refine g_iconst O dJxf58ca_isNaN_12338_6 (1 : Int32) (by decide) ?_
    refine g_goto 11 O dJxf58ca_isNaN_12338_7 (by decide) ?_
    exact hR _ hf (Or.inr rfl) _ _ dJxf58ca_isNaN_12338_11

