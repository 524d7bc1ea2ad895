set_option maxHeartbeats 4000000 in
theorem w_told {Z : ZT} {C : CX} {b N k25 v25 k34 v34 : Nat} {xs ef : Nat → Int32} (O : jOk Z C RL cL_law 19 13 494 600000 7302249) (hXs : jXs b N xs (c_A C) (c_s C) (c_s C).heap) (hN : N ≤ 600) (h25 : jK 25 "" k25 v25 0 ef (c_A C) (c_s C) (c_s C).heap) (hef : jF ef) (h34 : jK 34 "aeobtkle" k34 v34 8 (fun k => zsg (yal.getD k 0)) (c_A C) (c_s C) (c_s C).heap) {k0 n0 T t c12 words al as am ak qb vb : Nat} {q pl : Int32} {σ : Mem} {g kd md sz ld fb : Nat → Int32} (hk0 : k0 ≤ 300000) (hn0 : n0 ≤ 3000000) (hI : yI σ g kd md sz ld words) (hfit : hFit σ) (ht : t < 4) {n : Nat} (hn1 : n ≤ 1) (hfb : ∀ k, k < (ySay g).length → fb k = zsg ((ySay g).getD k 0)) {f i : Nat} {A : Nat → Int32} {τ : Mem} (hQ : yQ σ τ) (hfit2 : hFit τ) (hS : yS τ 0 n 4 A) (hA : ∀ k, k < 4 → A k = nI (yLn g 0 1 k)) (kk : ∀ (σ2 : Mem) (g2 kd2 md2 sz2 ld2 : Nat → Int32) (w2 : Nat), yI σ2 g2 kd2 md2 sz2 ld2 w2 → ySay g2 = ySay g → hFit σ2 → uE Z C σ2 [(ak, .inl (zc Z 1, (20, .inl kd2))), (am, .inl (zc Z 1, (4, .inl md2))), (as, .inl (zc Z 1, (4, .inl sz2))), (al, .inl (zc Z 1, (80, .inl ld2))), (qb, .inr (12, [.ref vb, .int (nI 0), .int (nI 0), .int (nI 0)])), (vb, .inl (zc Z 0, ((ySay g).length, .inl fb)))] (k0 + 24) (n0 + 1576) 1377 [(13, .ref qb), (10, .int (nI t)), (8, .int (nI T)), (7, .ref al), (6, .ref as), (5, .ref am), (4, .int (nI w2)), (3, .ref ak), (2, .int (nI 1)), (1, .ref (za Z 0)), (0, .ref b)] []) : uE Z C τ [(ak, .inl (zc Z 1, (20, .inl kd))), (am, .inl (zc Z 1, (4, .inl md))), (as, .inl (zc Z 1, (4, .inl sz))), (al, .inl (zc Z 1, (80, .inl ld))), (qb, .inr (12, [.ref vb, .int (nI 0), .int (nI 0), .int (nI 0)])), (vb, .inl (zc Z 0, ((ySay g).length, .inl fb)))] k0 n0 951 [(17, .int (nI i)), (16, .int (nI 4)), (15, .int (nI f)), (14, .int (nI n)), (13, .ref qb), (10, .int (nI t)), (9, .int q), (8, .int (nI T)), (7, .ref al), (6, .ref as), (5, .ref am), (4, .int (nI words)), (3, .ref ak), (2, .int (nI 1)), (1, .ref (za Z 0)), (0, .ref b)] [] := by
  have hB := hI.1; have hG := hI.2.1; have hz := hI.2.2.1; have hW : znW g = words := hI.2.2.2.1; have h6 : 6 ≤ words := (hW ▸ hG.2.2.2.2.2.2.2 : 6 ≤ words); have h20 : words ≤ 20 := (hW ▸ hB.1.1.2 : words ≤ 20)
  have hfit := hfit2
  show uE Z C τ [(ak, .inl (zc Z 1, (20, .inl kd))), (am, .inl (zc Z 1, (4, .inl md))), (as, .inl (zc Z 1, (4, .inl sz))), (al, .inl (zc Z 1, (80, .inl ld))), (qb, .inr (12, [.ref vb, .int (nI 0), .int (nI 0), .int (nI 0)])), (vb, .inl (zc Z 0, ((ySay g).length, .inl fb)))] _ _ _ [(17, .int (nI i)), (16, .int (nI 4)), (15, .int (nI f)), (14, .int (nI n)), (13, .ref qb), (10, .int (nI t)), (9, .int q), (8, .int (nI T)), (7, .ref al), (6, .ref as), (5, .ref am), (4, .int (nI words)), (3, .ref ak), (2, .int (nI 1)), (1, .ref (za Z 0)), (0, .ref b)] []
  have qτ := hQ
  have sA := hS
  have v00 : ytl g 4 A 0 1 = -nI 1 := y_zuk4 rfl hA
  refine uv_iload_n O.1 dL_law_951 13 rfl rfl ?_
  refine uv_iload O.1 dL_law_952 1 rfl ?_
  refine uv_iconst O.1 dL_law_954 (nI 4) rfl ?_
  refine uv_icmp_ne 998 O.1 dL_law_955 rfl (fun hh => absurd rfl hh) (fun _ => ?_)
  refine uv_aload_n O.1 dL_law_958 14 rfl rfl ?_
  refine uv_iconst O.1 dL_law_959 (nI 0) rfl ?_
  refine uv_iconst O.1 dL_law_960 (nI 0) rfl ?_
  obtain ⟨τa, aτa, cτa⟩ := y_tells (yQ_I hI qτ).1 hG (t := 0) (wh := 0) (n := 4) (by omega) (by omega) sA hn1 (by omega)
  have qτa := yQ_t qτ (yQ_s cτa)
  refine ue_ctV (as := [.int (nI 0), .int (nI 0)]) (rest := [.int (nI 1)]) O hfit dL_law_961 (fun Z2 hZ2 => ct_X11_tells hZ2 rfl aτa) vx_RL_102 rfl rfl rfl ⟨(Nat.le_of_ble_eq_true rfl), (Nat.le_of_ble_eq_true rfl)⟩ (Nat.le_of_ble_eq_true rfl) (by omega) (by omega) (fun _ hfit => ?_)
  show uE Z C τa [(ak, .inl (zc Z 1, (20, .inl kd))), (am, .inl (zc Z 1, (4, .inl md))), (as, .inl (zc Z 1, (4, .inl sz))), (al, .inl (zc Z 1, (80, .inl ld))), (qb, .inr (12, [.ref vb, .int (nI 0), .int (nI 0), .int (nI 0)])), (vb, .inl (zc Z 0, ((ySay g).length, .inl fb)))] _ _ _ [(17, .int (nI i)), (16, .int (nI 4)), (15, .int (nI f)), (14, .int (nI n)), (13, .ref qb), (10, .int (nI t)), (9, .int q), (8, .int (nI T)), (7, .ref al), (6, .ref as), (5, .ref am), (4, .int (nI words)), (3, .ref ak), (2, .int (nI 1)), (1, .ref (za Z 0)), (0, .ref b)] [.int (ytl g 4 A 0 1), .int (nI 1)]
  have sA := yS_sy sA cτa
  refine uv_iconst O.1 dL_law_964 (-nI 1) rfl ?_
  refine uv_icmp_ne 998 O.1 dL_law_965 rfl (fun hh => absurd v00 hh) (fun _ => ?_)
  refine uv_aload_n O.1 dL_law_968 14 rfl rfl ?_
  refine uv_iconst O.1 dL_law_969 (nI 0) rfl ?_
  refine uv_iconst O.1 dL_law_970 (nI 1) rfl ?_
  obtain ⟨τb, aτb, cτb⟩ := y_tells (yQ_I hI qτa).1 hG (t := 0) (wh := 1) (n := 4) (by omega) (by omega) sA hn1 (by omega)
  have qτb := yQ_t qτa (yQ_s cτb)
  refine ue_ctV (as := [.int (nI 0), .int (nI 1)]) (rest := [.int (nI 1)]) O hfit dL_law_971 (fun Z2 hZ2 => ct_X11_tells hZ2 rfl aτb) vx_RL_102 rfl rfl rfl ⟨(Nat.le_of_ble_eq_true rfl), (Nat.le_of_ble_eq_true rfl)⟩ (Nat.le_of_ble_eq_true rfl) (by omega) (by omega) (fun _ hfit => ?_)
  show uE Z C τb [(ak, .inl (zc Z 1, (20, .inl kd))), (am, .inl (zc Z 1, (4, .inl md))), (as, .inl (zc Z 1, (4, .inl sz))), (al, .inl (zc Z 1, (80, .inl ld))), (qb, .inr (12, [.ref vb, .int (nI 0), .int (nI 0), .int (nI 0)])), (vb, .inl (zc Z 0, ((ySay g).length, .inl fb)))] _ _ _ [(17, .int (nI i)), (16, .int (nI 4)), (15, .int (nI f)), (14, .int (nI n)), (13, .ref qb), (10, .int (nI t)), (9, .int q), (8, .int (nI T)), (7, .ref al), (6, .ref as), (5, .ref am), (4, .int (nI words)), (3, .ref ak), (2, .int (nI 1)), (1, .ref (za Z 0)), (0, .ref b)] [.int (zac (fun k => ytl g 4 A 0 k) 4), .int (nI 1)]
  have sA := yS_sy sA cτb
  refine uv_iconst O.1 dL_law_974 (nI 1) rfl ?_
  refine uv_ishr (z := ((zac (fun k => ytl g 4 A 0 k) 4) >>> ((nI 1) &&& 31))) O.1 dL_law_975 rfl ?_
  refine uv_iconst O.1 dL_law_976 (nI 1) rfl ?_
  refine uv_iand (z := nI 1) O.1 dL_law_977 (y_zac4 v00) ?_
  refine uv_iconst O.1 dL_law_978 (nI 1) rfl ?_
  refine uv_icmp_ne 998 O.1 dL_law_979 rfl (fun hh => absurd rfl hh) (fun _ => ?_)
  refine uv_aload_n O.1 dL_law_982 14 rfl rfl ?_
  refine uv_iconst O.1 dL_law_983 (nI 0) rfl ?_
  refine uv_iconst O.1 dL_law_984 (nI 2) rfl ?_
  obtain ⟨τc, aτc, cτc⟩ := y_tells (yQ_I hI qτb).1 hG (t := 0) (wh := 2) (n := 4) (by omega) (by omega) sA hn1 (by omega)
  have qτc := yQ_t qτb (yQ_s cτc)
  refine ue_ctV (as := [.int (nI 0), .int (nI 2)]) (rest := [.int (nI 1)]) O hfit dL_law_985 (fun Z2 hZ2 => ct_X11_tells hZ2 rfl aτc) vx_RL_102 rfl rfl rfl ⟨(Nat.le_of_ble_eq_true rfl), (Nat.le_of_ble_eq_true rfl)⟩ (Nat.le_of_ble_eq_true rfl) (by omega) (by omega) (fun _ hfit => ?_)
  show uE Z C τc [(ak, .inl (zc Z 1, (20, .inl kd))), (am, .inl (zc Z 1, (4, .inl md))), (as, .inl (zc Z 1, (4, .inl sz))), (al, .inl (zc Z 1, (80, .inl ld))), (qb, .inr (12, [.ref vb, .int (nI 0), .int (nI 0), .int (nI 0)])), (vb, .inl (zc Z 0, ((ySay g).length, .inl fb)))] _ _ _ [(17, .int (nI i)), (16, .int (nI 4)), (15, .int (nI f)), (14, .int (nI n)), (13, .ref qb), (10, .int (nI t)), (9, .int q), (8, .int (nI T)), (7, .ref al), (6, .ref as), (5, .ref am), (4, .int (nI words)), (3, .ref ak), (2, .int (nI 1)), (1, .ref (za Z 0)), (0, .ref b)] [.int (zac (fun k => ytl g 4 A k 1) 8), .int (nI 1)]
  have sA := yS_sy sA cτc
  refine uv_iconst O.1 dL_law_988 (nI 1) rfl ?_
  refine uv_iand (z := nI 1) O.1 dL_law_989 (y_zac8 v00) ?_
  refine uv_iconst O.1 dL_law_990 (nI 1) rfl ?_
  refine uv_icmp_ne 998 O.1 dL_law_991 rfl (fun hh => absurd rfl hh) (fun _ => ?_)
  refine uv_iconst O.1 dL_law_994 (nI 1) rfl ?_
  refine uv_goto 999 O.1 dL_law_995 rfl ?_
  refine uv_iand (z := nI 1) O.1 dL_law_999 (by decide +kernel) ?_
  refine uv_istore_n O.1 dL_law_1000 rfl (by omega) [(2, .int (nI 1)), (17, .int (nI i)), (16, .int (nI 4)), (15, .int (nI f)), (14, .int (nI n)), (13, .ref qb), (10, .int (nI t)), (9, .int q), (8, .int (nI T)), (7, .ref al), (6, .ref as), (5, .ref am), (4, .int (nI words)), (3, .ref ak), (1, .ref (za Z 0)), (0, .ref b)] rfl ?_
  refine uv_iload O.1 dL_law_1001 7 rfl ?_
  refine uv_bipush O.1 dL_law_1003 (nI 11) rfl ?_
  refine uv_ishr (z := (q >>> ((nI 11) &&& 31))) O.1 dL_law_1005 rfl ?_
  obtain ⟨w, hw, ew⟩ : ∃ w, w ≤ 3 ∧ (q >>> (nI 11 &&& 31)) &&& nI 3 = nI w := ⟨_, (y_and _ 3 (by omega)).2, (y_and _ 3 (by omega)).1⟩
  refine uv_iconst O.1 dL_law_1006 (nI 3) rfl ?_
  refine uv_iand (z := nI w) O.1 dL_law_1007 ew ?_
  refine uv_istore O.1 dL_law_1008 (by omega) [(17, .int (nI w)), (2, .int (nI 1)), (16, .int (nI 4)), (15, .int (nI f)), (14, .int (nI n)), (13, .ref qb), (10, .int (nI t)), (9, .int q), (8, .int (nI T)), (7, .ref al), (6, .ref as), (5, .ref am), (4, .int (nI words)), (3, .ref ak), (1, .ref (za Z 0)), (0, .ref b)] rfl ?_
  refine uv_iload_n O.1 dL_law_1010 1 rfl rfl ?_
  refine uv_aload_n O.1 dL_law_1011 14 rfl rfl ?_
  refine uv_iconst O.1 dL_law_1012 (nI 1) rfl ?_
  refine uv_iload O.1 dL_law_1013 4 rfl ?_
  refine uv_iconst O.1 dL_law_1015 (nI 4) rfl ?_
  obtain ⟨τd, aτd, bτd, cτd⟩ := y_sheet (σ := τc) (t := 1) (so := n) (n := 4) (by omega) (by omega) (by omega)
  have qτd := yQ_t qτc (yQ_b (t := 1) (by omega) cτd)
  refine ue_ctV (as := [.int (nI 1), .int (nI n), .int (nI 4)]) (rest := [.int (nI 1)]) O hfit dL_law_1016 (fun Z2 hZ2 => ct_X11_sheet hZ2 rfl aτd) vx_RL_96 rfl rfl rfl ⟨(Nat.le_of_ble_eq_true rfl), (Nat.le_of_ble_eq_true rfl)⟩ (Nat.le_of_ble_eq_true rfl) (by omega) (by omega) (fun _ hfit => ?_)
  show uE Z C τd [(ak, .inl (zc Z 1, (20, .inl kd))), (am, .inl (zc Z 1, (4, .inl md))), (as, .inl (zc Z 1, (4, .inl sz))), (al, .inl (zc Z 1, (80, .inl ld))), (qb, .inr (12, [.ref vb, .int (nI 0), .int (nI 0), .int (nI 0)])), (vb, .inl (zc Z 0, ((ySay g).length, .inl fb)))] _ _ _ [(17, .int (nI w)), (2, .int (nI 1)), (16, .int (nI 4)), (15, .int (nI f)), (14, .int (nI n)), (13, .ref qb), (10, .int (nI t)), (9, .int q), (8, .int (nI T)), (7, .ref al), (6, .ref as), (5, .ref am), (4, .int (nI words)), (3, .ref ak), (1, .ref (za Z 0)), (0, .ref b)] [.int (nI 1), .int (nI 1)]
  have sA := yS_o (o := 1) sA (by omega) cτd
  refine uv_iconst O.1 dL_law_1019 (nI 1) rfl ?_
  refine uv_icmp_ne 1082 O.1 dL_law_1020 rfl (fun hh => absurd rfl hh) (fun _ => ?_)
  refine uv_aload_n O.1 dL_law_1023 14 rfl rfl ?_
  refine uv_iconst O.1 dL_law_1024 (nI 0) rfl ?_
  refine uv_iconst O.1 dL_law_1025 (nI 0) rfl ?_
  refine uv_iconst O.1 dL_law_1026 (nI 1) rfl ?_
  refine uv_iconst O.1 dL_law_1027 (nI 0) rfl ?_
  refine uv_iconst O.1 dL_law_1028 (nI 4) rfl ?_
  obtain ⟨τe, aτe, bτe, cτe⟩ := y_copy (t := 0) (o := 1) (b := 4) (by omega) (by omega) (by omega) sA bτd (by omega) (by omega) hn1 (by omega) (by omega)
  have qτe := yQ_t qτd (yQ_p (t := 1) (by omega) cτe)
  have sA := yS_o (o := 1) sA (by omega) (fun x c p q => cτe x c q)
  refine ue_ctV (as := [.int (nI 0), .int (nI 0), .int (nI 1), .int (nI 0), .int (nI 4)]) (rest := [.int (nI 1)]) O hfit dL_law_1029 (fun Z2 hZ2 => ct_X11_copy hZ2 rfl aτe) vx_RL_105 rfl rfl rfl ⟨(Nat.le_of_ble_eq_true rfl), (Nat.le_of_ble_eq_true rfl)⟩ (Nat.le_of_ble_eq_true rfl) (by omega) (by omega) (fun _ hfit => ?_)
  show uE Z C τe [(ak, .inl (zc Z 1, (20, .inl kd))), (am, .inl (zc Z 1, (4, .inl md))), (as, .inl (zc Z 1, (4, .inl sz))), (al, .inl (zc Z 1, (80, .inl ld))), (qb, .inr (12, [.ref vb, .int (nI 0), .int (nI 0), .int (nI 0)])), (vb, .inl (zc Z 0, ((ySay g).length, .inl fb)))] _ _ _ [(17, .int (nI w)), (2, .int (nI 1)), (16, .int (nI 4)), (15, .int (nI f)), (14, .int (nI n)), (13, .ref qb), (10, .int (nI t)), (9, .int q), (8, .int (nI T)), (7, .ref al), (6, .ref as), (5, .ref am), (4, .int (nI words)), (3, .ref ak), (1, .ref (za Z 0)), (0, .ref b)] [.int (nI 4), .int (nI 1)]
  refine uv_iconst O.1 dL_law_1032 (nI 4) rfl ?_
  refine uv_icmp_ne 1082 O.1 dL_law_1033 rfl (fun hh => absurd rfl hh) (fun _ => ?_)
  refine uv_aload_n O.1 dL_law_1036 14 rfl rfl ?_
  refine uv_iconst O.1 dL_law_1037 (nI 1) rfl ?_
  refine uv_iload O.1 dL_law_1038 0 rfl ?_
  refine uv_bipush O.1 dL_law_1040 (nI 99) rfl ?_
  obtain ⟨τf, aτf, bτf, cτf⟩ := y_put (t := 1) (k := w) (v := nI 99) (by omega) bτe (by omega) (by omega) hn1 (y_i16n (by omega))
  have qτf := yQ_t qτe (yQ_p (t := 1) (by omega) cτf)
  have sA := yS_o (o := 1) sA (by omega) (fun x c p q => cτf x c q)
  refine ue_ctV (as := [.int (nI 1), .int (nI w), .int (nI 99)]) (rest := [.int (nI 1)]) O hfit dL_law_1042 (fun Z2 hZ2 => ct_X11_put hZ2 rfl aτf) vx_RL_99 rfl rfl rfl ⟨(Nat.le_of_ble_eq_true rfl), (Nat.le_of_ble_eq_true rfl)⟩ (Nat.le_of_ble_eq_true rfl) (by omega) (by omega) (fun _ hfit => ?_)
  show uE Z C τf [(ak, .inl (zc Z 1, (20, .inl kd))), (am, .inl (zc Z 1, (4, .inl md))), (as, .inl (zc Z 1, (4, .inl sz))), (al, .inl (zc Z 1, (80, .inl ld))), (qb, .inr (12, [.ref vb, .int (nI 0), .int (nI 0), .int (nI 0)])), (vb, .inl (zc Z 0, ((ySay g).length, .inl fb)))] _ _ _ [(17, .int (nI w)), (2, .int (nI 1)), (16, .int (nI 4)), (15, .int (nI f)), (14, .int (nI n)), (13, .ref qb), (10, .int (nI t)), (9, .int q), (8, .int (nI T)), (7, .ref al), (6, .ref as), (5, .ref am), (4, .int (nI words)), (3, .ref ak), (1, .ref (za Z 0)), (0, .ref b)] [.int (nI 1), .int (nI 1)]
  refine uv_iconst O.1 dL_law_1045 (nI 1) rfl ?_
  refine uv_icmp_ne 1082 O.1 dL_law_1046 rfl (fun hh => absurd rfl hh) (fun _ => ?_)
  refine uv_aload_n O.1 dL_law_1049 14 rfl rfl ?_
  refine uv_iconst O.1 dL_law_1050 (nI 1) rfl ?_
  refine uv_iconst O.1 dL_law_1051 (nI 0) rfl ?_
  generalize hA1 : upd (fun k => if k < 4 then A k else nI 0) w (nI 99) = A1 at bτf
  have hA1w : ∀ nb m, m < 4 → ¬ A1 w = nI (yLn g nb m w) := fun nb m hm e => by
    rw [← hA1, yu_eq] at e
    have := yLn_10 (nb := nb) (m := m) (k := w) hB.1 hG (by omega) hm
    simp (disch := omega) only [zC] at e
    omega
  have v10 : ytl g 4 A1 0 1 = nI w := y_zukW (by omega) (fun k hk => by rw [← hA1, yu_ne (by omega), if_pos (by omega)]; exact hA k (by omega)) (hA1w 0 1 (by omega))
  have v11 : zac (fun k => ytl g 4 A1 0 k) 4 = nI 0 := y_zac0 (fun k hk => y_zukN (w := w) (by omega) (hA1w 0 k hk))
  have v12 : zac (fun k => ytl g 4 A1 k 1) 8 = nI 0 := y_zac0 (fun k hk => y_zukN (w := w) (by omega) (hA1w k 1 (by omega)))
  have sB := bτf
  obtain ⟨τg, aτg, cτg⟩ := y_tells (yQ_I hI qτf).1 hG (t := 1) (wh := 0) (n := 4) (by omega) (by omega) sB hn1 (by omega)
  have qτg := yQ_t qτf (yQ_s cτg)
  refine ue_ctV (as := [.int (nI 1), .int (nI 0)]) (rest := [.int (nI 1)]) O hfit dL_law_1052 (fun Z2 hZ2 => ct_X11_tells hZ2 rfl aτg) vx_RL_102 rfl rfl rfl ⟨(Nat.le_of_ble_eq_true rfl), (Nat.le_of_ble_eq_true rfl)⟩ (Nat.le_of_ble_eq_true rfl) (by omega) (by omega) (fun _ hfit => ?_)
  show uE Z C τg [(ak, .inl (zc Z 1, (20, .inl kd))), (am, .inl (zc Z 1, (4, .inl md))), (as, .inl (zc Z 1, (4, .inl sz))), (al, .inl (zc Z 1, (80, .inl ld))), (qb, .inr (12, [.ref vb, .int (nI 0), .int (nI 0), .int (nI 0)])), (vb, .inl (zc Z 0, ((ySay g).length, .inl fb)))] _ _ _ [(17, .int (nI w)), (2, .int (nI 1)), (16, .int (nI 4)), (15, .int (nI f)), (14, .int (nI n)), (13, .ref qb), (10, .int (nI t)), (9, .int q), (8, .int (nI T)), (7, .ref al), (6, .ref as), (5, .ref am), (4, .int (nI words)), (3, .ref ak), (1, .ref (za Z 0)), (0, .ref b)] [.int (ytl g 4 A1 0 1), .int (nI 1)]
  have sA := yS_sy sA cτg
  have sB := yS_sy sB cτg
  refine uv_iload O.1 dL_law_1055 0 rfl ?_
  refine uv_icmp_ne 1082 O.1 dL_law_1057 rfl (fun hh => absurd v10 hh) (fun _ => ?_)
  refine uv_aload_n O.1 dL_law_1060 14 rfl rfl ?_
  refine uv_iconst O.1 dL_law_1061 (nI 1) rfl ?_
  refine uv_iconst O.1 dL_law_1062 (nI 1) rfl ?_
  obtain ⟨τh, aτh, cτh⟩ := y_tells (yQ_I hI qτg).1 hG (t := 1) (wh := 1) (n := 4) (by omega) (by omega) sB hn1 (by omega)
  have qτh := yQ_t qτg (yQ_s cτh)
  refine ue_ctV (as := [.int (nI 1), .int (nI 1)]) (rest := [.int (nI 1)]) O hfit dL_law_1063 (fun Z2 hZ2 => ct_X11_tells hZ2 rfl aτh) vx_RL_102 rfl rfl rfl ⟨(Nat.le_of_ble_eq_true rfl), (Nat.le_of_ble_eq_true rfl)⟩ (Nat.le_of_ble_eq_true rfl) (by omega) (by omega) (fun _ hfit => ?_)
  show uE Z C τh [(ak, .inl (zc Z 1, (20, .inl kd))), (am, .inl (zc Z 1, (4, .inl md))), (as, .inl (zc Z 1, (4, .inl sz))), (al, .inl (zc Z 1, (80, .inl ld))), (qb, .inr (12, [.ref vb, .int (nI 0), .int (nI 0), .int (nI 0)])), (vb, .inl (zc Z 0, ((ySay g).length, .inl fb)))] _ _ _ [(17, .int (nI w)), (2, .int (nI 1)), (16, .int (nI 4)), (15, .int (nI f)), (14, .int (nI n)), (13, .ref qb), (10, .int (nI t)), (9, .int q), (8, .int (nI T)), (7, .ref al), (6, .ref as), (5, .ref am), (4, .int (nI words)), (3, .ref ak), (1, .ref (za Z 0)), (0, .ref b)] [.int (zac (fun k => ytl g 4 A1 0 k) 4), .int (nI 1)]
  have sA := yS_sy sA cτh
  have sB := yS_sy sB cτh
  refine uv_neF 1082 O.1 dL_law_1066 rfl v11 ?_
  refine uv_aload_n O.1 dL_law_1069 14 rfl rfl ?_
  refine uv_iconst O.1 dL_law_1070 (nI 1) rfl ?_
  refine uv_iconst O.1 dL_law_1071 (nI 2) rfl ?_
  obtain ⟨τi, aτi, cτi⟩ := y_tells (yQ_I hI qτh).1 hG (t := 1) (wh := 2) (n := 4) (by omega) (by omega) sB hn1 (by omega)
  have qτi := yQ_t qτh (yQ_s cτi)
  refine ue_ctV (as := [.int (nI 1), .int (nI 2)]) (rest := [.int (nI 1)]) O hfit dL_law_1072 (fun Z2 hZ2 => ct_X11_tells hZ2 rfl aτi) vx_RL_102 rfl rfl rfl ⟨(Nat.le_of_ble_eq_true rfl), (Nat.le_of_ble_eq_true rfl)⟩ (Nat.le_of_ble_eq_true rfl) (by omega) (by omega) (fun _ hfit => ?_)
  show uE Z C τi [(ak, .inl (zc Z 1, (20, .inl kd))), (am, .inl (zc Z 1, (4, .inl md))), (as, .inl (zc Z 1, (4, .inl sz))), (al, .inl (zc Z 1, (80, .inl ld))), (qb, .inr (12, [.ref vb, .int (nI 0), .int (nI 0), .int (nI 0)])), (vb, .inl (zc Z 0, ((ySay g).length, .inl fb)))] _ _ _ [(17, .int (nI w)), (2, .int (nI 1)), (16, .int (nI 4)), (15, .int (nI f)), (14, .int (nI n)), (13, .ref qb), (10, .int (nI t)), (9, .int q), (8, .int (nI T)), (7, .ref al), (6, .ref as), (5, .ref am), (4, .int (nI words)), (3, .ref ak), (1, .ref (za Z 0)), (0, .ref b)] [.int (zac (fun k => ytl g 4 A1 k 1) 8), .int (nI 1)]
  have sA := yS_sy sA cτi
  have sB := yS_sy sB cτi
  refine uv_neF 1082 O.1 dL_law_1075 rfl v12 ?_
  refine uv_iconst O.1 dL_law_1078 (nI 1) rfl ?_
  refine uv_goto 1083 O.1 dL_law_1079 rfl ?_
  refine uv_iand (z := nI 1) O.1 dL_law_1083 (by decide +kernel) ?_
  refine uv_istore_n O.1 dL_law_1084 rfl (by omega) [(2, .int (nI 1)), (17, .int (nI w)), (16, .int (nI 4)), (15, .int (nI f)), (14, .int (nI n)), (13, .ref qb), (10, .int (nI t)), (9, .int q), (8, .int (nI T)), (7, .ref al), (6, .ref as), (5, .ref am), (4, .int (nI words)), (3, .ref ak), (1, .ref (za Z 0)), (0, .ref b)] rfl ?_
  refine uv_iload_n O.1 dL_law_1085 0 rfl rfl ?_
  refine uv_aload_n O.1 dL_law_1086 14 rfl rfl ?_
  refine uv_iconst O.1 dL_law_1087 (nI 2) rfl ?_
  refine uv_iload O.1 dL_law_1088 4 rfl ?_
  refine uv_iconst O.1 dL_law_1090 (nI 3) rfl ?_
  obtain ⟨τj, aτj, bτj, cτj⟩ := y_sheet (σ := τi) (t := 2) (so := n) (n := 3) (by omega) (by omega) (by omega)
  have qτj := yQ_t qτi (yQ_b (t := 2) (by omega) cτj)
  refine ue_ctV (as := [.int (nI 2), .int (nI n), .int (nI 3)]) (rest := [.int (nI 1)]) O hfit dL_law_1091 (fun Z2 hZ2 => ct_X11_sheet hZ2 rfl aτj) vx_RL_96 rfl rfl rfl ⟨(Nat.le_of_ble_eq_true rfl), (Nat.le_of_ble_eq_true rfl)⟩ (Nat.le_of_ble_eq_true rfl) (by omega) (by omega) (fun _ hfit => ?_)
  show uE Z C τj [(ak, .inl (zc Z 1, (20, .inl kd))), (am, .inl (zc Z 1, (4, .inl md))), (as, .inl (zc Z 1, (4, .inl sz))), (al, .inl (zc Z 1, (80, .inl ld))), (qb, .inr (12, [.ref vb, .int (nI 0), .int (nI 0), .int (nI 0)])), (vb, .inl (zc Z 0, ((ySay g).length, .inl fb)))] _ _ _ [(2, .int (nI 1)), (17, .int (nI w)), (16, .int (nI 4)), (15, .int (nI f)), (14, .int (nI n)), (13, .ref qb), (10, .int (nI t)), (9, .int q), (8, .int (nI T)), (7, .ref al), (6, .ref as), (5, .ref am), (4, .int (nI words)), (3, .ref ak), (1, .ref (za Z 0)), (0, .ref b)] [.int (nI 1), .int (nI 1)]
  have sA := yS_o (o := 2) sA (by omega) cτj
  have sB := yS_o (o := 2) sB (by omega) cτj
  refine uv_iconst O.1 dL_law_1094 (nI 1) rfl ?_
  refine uv_icmp_ne 1202 O.1 dL_law_1095 rfl (fun hh => absurd rfl hh) (fun _ => ?_)
  refine uv_aload_n O.1 dL_law_1098 14 rfl rfl ?_
  refine uv_iconst O.1 dL_law_1099 (nI 0) rfl ?_
  refine uv_iconst O.1 dL_law_1100 (nI 0) rfl ?_
  refine uv_iconst O.1 dL_law_1101 (nI 2) rfl ?_
  refine uv_iconst O.1 dL_law_1102 (nI 0) rfl ?_
  refine uv_iconst O.1 dL_law_1103 (nI 3) rfl ?_
  obtain ⟨τk, aτk, bτk, cτk⟩ := y_copy (t := 0) (o := 2) (b := 3) (by omega) (by omega) (by omega) sA bτj (by omega) (by omega) hn1 (by omega) (by omega)
  have qτk := yQ_t qτj (yQ_p (t := 2) (by omega) cτk)
  have sA := yS_o (o := 2) sA (by omega) (fun x c p q => cτk x c q)
  have sB := yS_o (o := 2) sB (by omega) (fun x c p q => cτk x c q)
  refine ue_ctV (as := [.int (nI 0), .int (nI 0), .int (nI 2), .int (nI 0), .int (nI 3)]) (rest := [.int (nI 1)]) O hfit dL_law_1104 (fun Z2 hZ2 => ct_X11_copy hZ2 rfl aτk) vx_RL_105 rfl rfl rfl ⟨(Nat.le_of_ble_eq_true rfl), (Nat.le_of_ble_eq_true rfl)⟩ (Nat.le_of_ble_eq_true rfl) (by omega) (by omega) (fun _ hfit => ?_)
  show uE Z C τk [(ak, .inl (zc Z 1, (20, .inl kd))), (am, .inl (zc Z 1, (4, .inl md))), (as, .inl (zc Z 1, (4, .inl sz))), (al, .inl (zc Z 1, (80, .inl ld))), (qb, .inr (12, [.ref vb, .int (nI 0), .int (nI 0), .int (nI 0)])), (vb, .inl (zc Z 0, ((ySay g).length, .inl fb)))] _ _ _ [(2, .int (nI 1)), (17, .int (nI w)), (16, .int (nI 4)), (15, .int (nI f)), (14, .int (nI n)), (13, .ref qb), (10, .int (nI t)), (9, .int q), (8, .int (nI T)), (7, .ref al), (6, .ref as), (5, .ref am), (4, .int (nI words)), (3, .ref ak), (1, .ref (za Z 0)), (0, .ref b)] [.int (nI 3), .int (nI 1)]
  refine uv_iconst O.1 dL_law_1107 (nI 3) rfl ?_
  refine uv_icmp_ne 1202 O.1 dL_law_1108 rfl (fun hh => absurd rfl hh) (fun _ => ?_)
  refine uv_aload_n O.1 dL_law_1111 14 rfl rfl ?_
  refine uv_iconst O.1 dL_law_1112 (nI 2) rfl ?_
  refine uv_iconst O.1 dL_law_1113 (nI 0) rfl ?_
  have v20 : ytl g 3 (fun k => if k < 3 then A k else nI 0) 0 1 = nI 3 := y_zuk3 (fun k hk => by rw [if_pos hk]; exact hA k (by omega))
  obtain ⟨τl, aτl, cτl⟩ := y_tells (yQ_I hI qτk).1 hG (t := 2) (wh := 0) (n := 3) (by omega) (by omega) bτk hn1 (by omega)
  have qτl := yQ_t qτk (yQ_s cτl)
  refine ue_ctV (as := [.int (nI 2), .int (nI 0)]) (rest := [.int (nI 1)]) O hfit dL_law_1114 (fun Z2 hZ2 => ct_X11_tells hZ2 rfl aτl) vx_RL_102 rfl rfl rfl ⟨(Nat.le_of_ble_eq_true rfl), (Nat.le_of_ble_eq_true rfl)⟩ (Nat.le_of_ble_eq_true rfl) (by omega) (by omega) (fun _ hfit => ?_)
  show uE Z C τl [(ak, .inl (zc Z 1, (20, .inl kd))), (am, .inl (zc Z 1, (4, .inl md))), (as, .inl (zc Z 1, (4, .inl sz))), (al, .inl (zc Z 1, (80, .inl ld))), (qb, .inr (12, [.ref vb, .int (nI 0), .int (nI 0), .int (nI 0)])), (vb, .inl (zc Z 0, ((ySay g).length, .inl fb)))] _ _ _ [(2, .int (nI 1)), (17, .int (nI w)), (16, .int (nI 4)), (15, .int (nI f)), (14, .int (nI n)), (13, .ref qb), (10, .int (nI t)), (9, .int q), (8, .int (nI T)), (7, .ref al), (6, .ref as), (5, .ref am), (4, .int (nI words)), (3, .ref ak), (1, .ref (za Z 0)), (0, .ref b)] [.int (ytl g 3 (fun k => if k < 3 then A k else nI 0) 0 1), .int (nI 1)]
  have sA := yS_sy sA cτl
  have sB := yS_sy sB cτl
  refine uv_iconst O.1 dL_law_1117 (nI 3) rfl ?_
  refine uv_icmp_ne 1202 O.1 dL_law_1118 rfl (fun hh => absurd v20 hh) (fun _ => ?_)
  refine uv_aload_n O.1 dL_law_1121 14 rfl rfl ?_
  refine uv_iconst O.1 dL_law_1122 (nI 3) rfl ?_
  refine uv_iconst O.1 dL_law_1123 (nI 1) rfl ?_
  refine uv_iload O.1 dL_law_1124 4 rfl ?_
  refine uv_isub (z := nI (1 - n)) O.1 dL_law_1126 (zi_sub (by omega)) ?_
  refine uv_bipush O.1 dL_law_1127 (nI 9) rfl ?_
  obtain ⟨τm, aτm, bτm, cτm⟩ := y_sheet (σ := τl) (t := 3) (so := (1 - n)) (n := 9) (by omega) (by omega) (by omega)
  have qτm := yQ_t qτl (yQ_b (t := 3) (by omega) cτm)
  refine ue_ctV (as := [.int (nI 3), .int (nI (1 - n)), .int (nI 9)]) (rest := [.int (nI 1)]) O hfit dL_law_1129 (fun Z2 hZ2 => ct_X11_sheet hZ2 rfl aτm) vx_RL_96 rfl rfl rfl ⟨(Nat.le_of_ble_eq_true rfl), (Nat.le_of_ble_eq_true rfl)⟩ (Nat.le_of_ble_eq_true rfl) (by omega) (by omega) (fun _ hfit => ?_)
  show uE Z C τm [(ak, .inl (zc Z 1, (20, .inl kd))), (am, .inl (zc Z 1, (4, .inl md))), (as, .inl (zc Z 1, (4, .inl sz))), (al, .inl (zc Z 1, (80, .inl ld))), (qb, .inr (12, [.ref vb, .int (nI 0), .int (nI 0), .int (nI 0)])), (vb, .inl (zc Z 0, ((ySay g).length, .inl fb)))] _ _ _ [(2, .int (nI 1)), (17, .int (nI w)), (16, .int (nI 4)), (15, .int (nI f)), (14, .int (nI n)), (13, .ref qb), (10, .int (nI t)), (9, .int q), (8, .int (nI T)), (7, .ref al), (6, .ref as), (5, .ref am), (4, .int (nI words)), (3, .ref ak), (1, .ref (za Z 0)), (0, .ref b)] [.int (nI 1), .int (nI 1)]
  have sA := yS_o (o := 3) sA (by omega) cτm
  have sB := yS_o (o := 3) sB (by omega) cτm
  refine uv_iconst O.1 dL_law_1132 (nI 1) rfl ?_
  refine uv_icmp_ne 1202 O.1 dL_law_1133 rfl (fun hh => absurd rfl hh) (fun _ => ?_)
  refine uv_aload_n O.1 dL_law_1136 14 rfl rfl ?_
  refine uv_iconst O.1 dL_law_1137 (nI 0) rfl ?_
  refine uv_iconst O.1 dL_law_1138 (nI 0) rfl ?_
  refine uv_iconst O.1 dL_law_1139 (nI 3) rfl ?_
  refine uv_iconst O.1 dL_law_1140 (nI 0) rfl ?_
  refine uv_iconst O.1 dL_law_1141 (nI 1) rfl ?_
  refine ue_ctV (as := [.int (nI 0), .int (nI 0), .int (nI 3), .int (nI 0), .int (nI 1)]) (rest := [.int (nI 1)]) O hfit dL_law_1142 (fun Z2 hZ2 => ct_X11_copy hZ2 rfl (y_copyU (t := 0) (o := 3) (by omega) (by omega) sA bτm hn1 (by omega) (by omega))) vx_RL_105 rfl rfl rfl ⟨(Nat.le_of_ble_eq_true rfl), (Nat.le_of_ble_eq_true rfl)⟩ (Nat.le_of_ble_eq_true rfl) (by omega) (by omega) (fun _ hfit => ?_)
  show uE Z C τm [(ak, .inl (zc Z 1, (20, .inl kd))), (am, .inl (zc Z 1, (4, .inl md))), (as, .inl (zc Z 1, (4, .inl sz))), (al, .inl (zc Z 1, (80, .inl ld))), (qb, .inr (12, [.ref vb, .int (nI 0), .int (nI 0), .int (nI 0)])), (vb, .inl (zc Z 0, ((ySay g).length, .inl fb)))] _ _ _ [(2, .int (nI 1)), (17, .int (nI w)), (16, .int (nI 4)), (15, .int (nI f)), (14, .int (nI n)), (13, .ref qb), (10, .int (nI t)), (9, .int q), (8, .int (nI T)), (7, .ref al), (6, .ref as), (5, .ref am), (4, .int (nI words)), (3, .ref ak), (1, .ref (za Z 0)), (0, .ref b)] [.int (-nI 13), .int (nI 1)]
  refine uv_bipush O.1 dL_law_1145 (-nI 13) rfl ?_
  refine uv_icmp_ne 1202 O.1 dL_law_1147 rfl (fun hh => absurd rfl hh) (fun _ => ?_)
  refine uv_aload_n O.1 dL_law_1150 14 rfl rfl ?_
  refine uv_iconst O.1 dL_law_1151 (nI 3) rfl ?_
  refine uv_iconst O.1 dL_law_1152 (nI 0) rfl ?_
  refine ue_ctV (as := [.int (nI 3), .int (nI 0)]) (rest := [.int (nI 1)]) O hfit dL_law_1153 (fun Z2 hZ2 => ct_X11_tells hZ2 rfl (y_tellsB (t := 3) (wh := 0) (by omega) (by omega) bτm (by omega) (by omega) (by omega))) vx_RL_102 rfl rfl rfl ⟨(Nat.le_of_ble_eq_true rfl), (Nat.le_of_ble_eq_true rfl)⟩ (Nat.le_of_ble_eq_true rfl) (by omega) (by omega) (fun _ hfit => ?_)
  show uE Z C τm [(ak, .inl (zc Z 1, (20, .inl kd))), (am, .inl (zc Z 1, (4, .inl md))), (as, .inl (zc Z 1, (4, .inl sz))), (al, .inl (zc Z 1, (80, .inl ld))), (qb, .inr (12, [.ref vb, .int (nI 0), .int (nI 0), .int (nI 0)])), (vb, .inl (zc Z 0, ((ySay g).length, .inl fb)))] _ _ _ [(2, .int (nI 1)), (17, .int (nI w)), (16, .int (nI 4)), (15, .int (nI f)), (14, .int (nI n)), (13, .ref qb), (10, .int (nI t)), (9, .int q), (8, .int (nI T)), (7, .ref al), (6, .ref as), (5, .ref am), (4, .int (nI words)), (3, .ref ak), (1, .ref (za Z 0)), (0, .ref b)] [.int (-nI 2), .int (nI 1)]
  refine uv_bipush O.1 dL_law_1156 (-nI 2) rfl ?_
  refine uv_icmp_ne 1202 O.1 dL_law_1158 rfl (fun hh => absurd rfl hh) (fun _ => ?_)
  refine uv_aload_n O.1 dL_law_1161 14 rfl rfl ?_
  refine uv_iconst O.1 dL_law_1162 (nI 0) rfl ?_
  refine uv_iconst O.1 dL_law_1163 (nI 0) rfl ?_
  refine uv_iconst O.1 dL_law_1164 (nI 1) rfl ?_
  refine uv_iconst O.1 dL_law_1165 (nI 1) rfl ?_
  refine uv_iconst O.1 dL_law_1166 (nI 4) rfl ?_
  refine ue_ctV (as := [.int (nI 0), .int (nI 0), .int (nI 1), .int (nI 1), .int (nI 4)]) (rest := [.int (nI 1)]) O hfit dL_law_1167 (fun Z2 hZ2 => ct_X11_copy hZ2 rfl (y_copyO (t := 0) (o := 1) (a := 0) (b := 4) (c := 1) (by omega) (by omega) sA sB hn1 (by omega) (by omega) (by omega) (by omega) (by omega))) vx_RL_105 rfl rfl rfl ⟨(Nat.le_of_ble_eq_true rfl), (Nat.le_of_ble_eq_true rfl)⟩ (Nat.le_of_ble_eq_true rfl) (by omega) (by omega) (fun _ hfit => ?_)
  show uE Z C τm [(ak, .inl (zc Z 1, (20, .inl kd))), (am, .inl (zc Z 1, (4, .inl md))), (as, .inl (zc Z 1, (4, .inl sz))), (al, .inl (zc Z 1, (80, .inl ld))), (qb, .inr (12, [.ref vb, .int (nI 0), .int (nI 0), .int (nI 0)])), (vb, .inl (zc Z 0, ((ySay g).length, .inl fb)))] _ _ _ [(2, .int (nI 1)), (17, .int (nI w)), (16, .int (nI 4)), (15, .int (nI f)), (14, .int (nI n)), (13, .ref qb), (10, .int (nI t)), (9, .int q), (8, .int (nI T)), (7, .ref al), (6, .ref as), (5, .ref am), (4, .int (nI words)), (3, .ref ak), (1, .ref (za Z 0)), (0, .ref b)] [.int (-nI 12), .int (nI 1)]
  refine uv_bipush O.1 dL_law_1170 (-nI 12) rfl ?_
  refine uv_icmp_ne 1202 O.1 dL_law_1172 rfl (fun hh => absurd rfl hh) (fun _ => ?_)
  refine uv_aload_n O.1 dL_law_1175 14 rfl rfl ?_
  refine uv_iconst O.1 dL_law_1176 (nI 3) rfl ?_
  refine uv_iconst O.1 dL_law_1177 (-nI 1) rfl ?_
  refine uv_bipush O.1 dL_law_1178 (nI 99) rfl ?_
  obtain ⟨τn, aτn, bτn, cτn⟩ := y_sheetM (σ := τm) (t := 3) (p3 := nI 99) (by omega)
  have qτn := yQ_t qτm (yQ_b (t := 3) (by omega) cτn)
  refine ue_ctV (as := [.int (nI 3), .int (-nI 1), .int (nI 99)]) (rest := [.int (nI 1)]) O hfit dL_law_1180 (fun Z2 hZ2 => ct_X11_sheet hZ2 rfl aτn) vx_RL_96 rfl rfl rfl ⟨(Nat.le_of_ble_eq_true rfl), (Nat.le_of_ble_eq_true rfl)⟩ (Nat.le_of_ble_eq_true rfl) (by omega) (by omega) (fun _ hfit => ?_)
  show uE Z C τn [(ak, .inl (zc Z 1, (20, .inl kd))), (am, .inl (zc Z 1, (4, .inl md))), (as, .inl (zc Z 1, (4, .inl sz))), (al, .inl (zc Z 1, (80, .inl ld))), (qb, .inr (12, [.ref vb, .int (nI 0), .int (nI 0), .int (nI 0)])), (vb, .inl (zc Z 0, ((ySay g).length, .inl fb)))] _ _ _ [(2, .int (nI 1)), (17, .int (nI w)), (16, .int (nI 4)), (15, .int (nI f)), (14, .int (nI n)), (13, .ref qb), (10, .int (nI t)), (9, .int q), (8, .int (nI T)), (7, .ref al), (6, .ref as), (5, .ref am), (4, .int (nI words)), (3, .ref ak), (1, .ref (za Z 0)), (0, .ref b)] [.int (nI 1), .int (nI 1)]
  refine uv_iconst O.1 dL_law_1183 (nI 1) rfl ?_
  refine uv_icmp_ne 1202 O.1 dL_law_1184 rfl (fun hh => absurd rfl hh) (fun _ => ?_)
  refine uv_aload_n O.1 dL_law_1187 14 rfl rfl ?_
  refine uv_iconst O.1 dL_law_1188 (nI 3) rfl ?_
  refine uv_iconst O.1 dL_law_1189 (nI 0) rfl ?_
  refine ue_ctV (as := [.int (nI 3), .int (nI 0)]) (rest := [.int (nI 1)]) O hfit dL_law_1190 (fun Z2 hZ2 => ct_X11_tells hZ2 rfl (y_tellsM (t := 3) (wh := 0) (by omega) (by omega) bτn)) vx_RL_102 rfl rfl rfl ⟨(Nat.le_of_ble_eq_true rfl), (Nat.le_of_ble_eq_true rfl)⟩ (Nat.le_of_ble_eq_true rfl) (by omega) (by omega) (fun _ hfit => ?_)
  show uE Z C τn [(ak, .inl (zc Z 1, (20, .inl kd))), (am, .inl (zc Z 1, (4, .inl md))), (as, .inl (zc Z 1, (4, .inl sz))), (al, .inl (zc Z 1, (80, .inl ld))), (qb, .inr (12, [.ref vb, .int (nI 0), .int (nI 0), .int (nI 0)])), (vb, .inl (zc Z 0, ((ySay g).length, .inl fb)))] _ _ _ [(2, .int (nI 1)), (17, .int (nI w)), (16, .int (nI 4)), (15, .int (nI f)), (14, .int (nI n)), (13, .ref qb), (10, .int (nI t)), (9, .int q), (8, .int (nI T)), (7, .ref al), (6, .ref as), (5, .ref am), (4, .int (nI words)), (3, .ref ak), (1, .ref (za Z 0)), (0, .ref b)] [.int (-nI 11), .int (nI 1)]
  refine uv_bipush O.1 dL_law_1193 (-nI 11) rfl ?_
  refine uv_icmp_ne 1202 O.1 dL_law_1195 rfl (fun hh => absurd rfl hh) (fun _ => ?_)
  refine uv_iconst O.1 dL_law_1198 (nI 1) rfl ?_
  refine uv_goto 1203 O.1 dL_law_1199 rfl ?_
  refine uv_iand (z := nI 1) O.1 dL_law_1203 (by decide +kernel) ?_
  refine uv_istore_n O.1 dL_law_1204 rfl (by omega) [(2, .int (nI 1)), (17, .int (nI w)), (16, .int (nI 4)), (15, .int (nI f)), (14, .int (nI n)), (13, .ref qb), (10, .int (nI t)), (9, .int q), (8, .int (nI T)), (7, .ref al), (6, .ref as), (5, .ref am), (4, .int (nI words)), (3, .ref ak), (1, .ref (za Z 0)), (0, .ref b)] rfl ?_
  refine uv_goto 1377 O.1 dL_law_1205 rfl ?_
  refine uv_sub [5, 6, 8, 9, 10, 11, 12, 13, 0, 14, 15] rfl ?_
  refine uv_widen (k' := k0 + 24) (n' := n0 + 1576) (by omega) (by omega) ?_
  exact kk τn g kd md sz ld words (yQ_I hI qτn) rfl hfit
set_option maxHeartbeats 4000000 in
theorem w_sheet {Z : ZT} {C : CX} {b N k25 v25 k34 v34 : Nat} {xs ef : Nat → Int32} (O : jOk Z C RL cL_law 19 13 494 600000 7302249) (hXs : jXs b N xs (c_A C) (c_s C) (c_s C).heap) (hN : N ≤ 600) (h25 : jK 25 "" k25 v25 0 ef (c_A C) (c_s C) (c_s C).heap) (hef : jF ef) (h34 : jK 34 "aeobtkle" k34 v34 8 (fun k => zsg (yal.getD k 0)) (c_A C) (c_s C) (c_s C).heap) {k0 n0 T t c12 words al as am ak qb vb : Nat} {q pl : Int32} {σ : Mem} {g kd md sz ld fb : Nat → Int32} (hk0 : k0 ≤ 300000) (hn0 : n0 ≤ 3000000) (hI : yI σ g kd md sz ld words) (hfit : hFit σ) (ht : t < 4) (hfb : ∀ k, k < (ySay g).length → fb k = zsg ((ySay g).getD k 0)) (kk : ∀ (σ2 : Mem) (g2 kd2 md2 sz2 ld2 : Nat → Int32) (w2 : Nat), yI σ2 g2 kd2 md2 sz2 ld2 w2 → ySay g2 = ySay g → hFit σ2 → uE Z C σ2 [(ak, .inl (zc Z 1, (20, .inl kd2))), (am, .inl (zc Z 1, (4, .inl md2))), (as, .inl (zc Z 1, (4, .inl sz2))), (al, .inl (zc Z 1, (80, .inl ld2))), (qb, .inr (12, [.ref vb, .int (nI 0), .int (nI 0), .int (nI 0)])), (vb, .inl (zc Z 0, ((ySay g).length, .inl fb)))] (k0 + 24) (n0 + 1576) 1377 [(13, .ref qb), (10, .int (nI t)), (8, .int (nI T)), (7, .ref al), (6, .ref as), (5, .ref am), (4, .int (nI w2)), (3, .ref ak), (2, .int (nI 1)), (1, .ref (za Z 0)), (0, .ref b)] []) : uE Z C σ [(ak, .inl (zc Z 1, (20, .inl kd))), (am, .inl (zc Z 1, (4, .inl md))), (as, .inl (zc Z 1, (4, .inl sz))), (al, .inl (zc Z 1, (80, .inl ld))), (qb, .inr (12, [.ref vb, .int (nI 0), .int (nI 0), .int (nI 0)])), (vb, .inl (zc Z 0, ((ySay g).length, .inl fb)))] k0 n0 842 [(13, .ref qb), (12, .int (nI c12)), (11, .int pl), (10, .int (nI t)), (9, .int q), (8, .int (nI T)), (7, .ref al), (6, .ref as), (5, .ref am), (4, .int (nI words)), (3, .ref ak), (2, .int (nI 1)), (1, .ref (za Z 0)), (0, .ref b)] [] := by
  have hB := hI.1; have hG := hI.2.1; have hz := hI.2.2.1; have hW : znW g = words := hI.2.2.2.1; have h6 : 6 ≤ words := (hW ▸ hG.2.2.2.2.2.2.2 : 6 ≤ words); have h20 : words ≤ 20 := (hW ▸ hB.1.1.2 : words ≤ 20)
  have hfit0 := hfit
  show uE Z C σ [(ak, .inl (zc Z 1, (20, .inl kd))), (am, .inl (zc Z 1, (4, .inl md))), (as, .inl (zc Z 1, (4, .inl sz))), (al, .inl (zc Z 1, (80, .inl ld))), (qb, .inr (12, [.ref vb, .int (nI 0), .int (nI 0), .int (nI 0)])), (vb, .inl (zc Z 0, ((ySay g).length, .inl fb)))] _ _ _ [(13, .ref qb), (12, .int (nI c12)), (11, .int pl), (10, .int (nI t)), (9, .int q), (8, .int (nI T)), (7, .ref al), (6, .ref as), (5, .ref am), (4, .int (nI words)), (3, .ref ak), (2, .int (nI 1)), (1, .ref (za Z 0)), (0, .ref b)] []
  refine uv_iload O.1 dL_law_842 4 rfl ?_
  refine uv_bipush O.1 dL_law_844 (nI 10) rfl ?_
  refine uv_ishr (z := (q >>> ((nI 10) &&& 31))) O.1 dL_law_846 rfl ?_
  obtain ⟨n, hn, en⟩ : ∃ n, n ≤ 1 ∧ (q >>> (nI 10 &&& 31)) &&& nI 1 = nI n := ⟨_, (y_and _ 1 (by omega)).2, (y_and _ 1 (by omega)).1⟩
  refine uv_iconst O.1 dL_law_847 (nI 1) rfl ?_
  refine uv_iand (z := nI n) O.1 dL_law_848 en ?_
  refine uv_istore O.1 dL_law_849 (by omega) [(14, .int (nI n)), (13, .ref qb), (12, .int (nI c12)), (11, .int pl), (10, .int (nI t)), (9, .int q), (8, .int (nI T)), (7, .ref al), (6, .ref as), (5, .ref am), (4, .int (nI words)), (3, .ref ak), (2, .int (nI 1)), (1, .ref (za Z 0)), (0, .ref b)] rfl ?_
  refine uv_iload_n O.1 dL_law_851 12 rfl rfl ?_
  refine uv_aload_n O.1 dL_law_852 13 rfl rfl ?_
  refine uv_iconst O.1 dL_law_853 (nI 0) rfl ?_
  refine uv_iload O.1 dL_law_854 0 rfl ?_
  refine uv_iconst O.1 dL_law_856 (nI 4) rfl ?_
  have qσ := yQ_0 σ
  obtain ⟨τ, aτ, bτ, cτ⟩ := y_sheet (σ := σ) (t := 0) (so := n) (n := 4) (by omega) (by omega) (by omega)
  have qτ := yQ_t qσ (yQ_b (t := 0) (by omega) cτ)
  refine ue_ctV (as := [.int (nI 0), .int (nI n), .int (nI 4)]) (rest := [.int (nI 1)]) O hfit dL_law_857 (fun Z2 hZ2 => ct_X11_sheet hZ2 rfl aτ) vx_RL_96 rfl rfl rfl ⟨(Nat.le_of_ble_eq_true rfl), (Nat.le_of_ble_eq_true rfl)⟩ (Nat.le_of_ble_eq_true rfl) (by omega) (by omega) (fun _ hfit => ?_)
  show uE Z C τ [(ak, .inl (zc Z 1, (20, .inl kd))), (am, .inl (zc Z 1, (4, .inl md))), (as, .inl (zc Z 1, (4, .inl sz))), (al, .inl (zc Z 1, (80, .inl ld))), (qb, .inr (12, [.ref vb, .int (nI 0), .int (nI 0), .int (nI 0)])), (vb, .inl (zc Z 0, ((ySay g).length, .inl fb)))] _ _ _ [(14, .int (nI n)), (13, .ref qb), (12, .int (nI c12)), (11, .int pl), (10, .int (nI t)), (9, .int q), (8, .int (nI T)), (7, .ref al), (6, .ref as), (5, .ref am), (4, .int (nI words)), (3, .ref ak), (2, .int (nI 1)), (1, .ref (za Z 0)), (0, .ref b)] [.int (nI 1), .int (nI 1)]
  refine uv_iconst O.1 dL_law_860 (nI 1) rfl ?_
  refine uv_icmp_ne 868 O.1 dL_law_861 rfl (fun hh => absurd rfl hh) (fun _ => ?_)
  refine uv_iconst O.1 dL_law_864 (nI 1) rfl ?_
  refine uv_goto 869 O.1 dL_law_865 rfl ?_
  refine uv_iand (z := nI 1) O.1 dL_law_869 (by decide +kernel) ?_
  refine uv_istore_n O.1 dL_law_870 rfl (by omega) [(2, .int (nI 1)), (14, .int (nI n)), (13, .ref qb), (12, .int (nI c12)), (11, .int pl), (10, .int (nI t)), (9, .int q), (8, .int (nI T)), (7, .ref al), (6, .ref as), (5, .ref am), (4, .int (nI words)), (3, .ref ak), (1, .ref (za Z 0)), (0, .ref b)] rfl ?_
  refine uv_iconst O.1 dL_law_871 (nI 0) rfl ?_
  refine uv_istore O.1 dL_law_872 (by omega) [(15, .int (nI 0)), (2, .int (nI 1)), (14, .int (nI n)), (13, .ref qb), (12, .int (nI c12)), (11, .int pl), (10, .int (nI t)), (9, .int q), (8, .int (nI T)), (7, .ref al), (6, .ref as), (5, .ref am), (4, .int (nI words)), (3, .ref ak), (1, .ref (za Z 0)), (0, .ref b)] rfl ?_
  refine uv_iconst O.1 dL_law_874 (nI 0) rfl ?_
  refine uv_istore O.1 dL_law_875 (by omega) [(16, .int (nI 0)), (15, .int (nI 0)), (2, .int (nI 1)), (14, .int (nI n)), (13, .ref qb), (12, .int (nI c12)), (11, .int pl), (10, .int (nI t)), (9, .int q), (8, .int (nI T)), (7, .ref al), (6, .ref as), (5, .ref am), (4, .int (nI words)), (3, .ref ak), (1, .ref (za Z 0)), (0, .ref b)] rfl ?_
  refine uv_iconst O.1 dL_law_877 (nI 0) rfl ?_
  refine uv_istore O.1 dL_law_878 (by omega) [(17, .int (nI 0)), (16, .int (nI 0)), (15, .int (nI 0)), (2, .int (nI 1)), (14, .int (nI n)), (13, .ref qb), (12, .int (nI c12)), (11, .int pl), (10, .int (nI t)), (9, .int q), (8, .int (nI T)), (7, .ref al), (6, .ref as), (5, .ref am), (4, .int (nI words)), (3, .ref ak), (1, .ref (za Z 0)), (0, .ref b)] rfl ?_
  refine uv_sub [0, 1, 2, 4, 5, 8, 9, 10, 11, 12, 13, 14, 15, 3, 16, 17] rfl ?_
  exact w_sizes (c12 := c12) (pl := pl) O hXs hN h25 hef h34 hk0 hn0 hI hfit0 ht hn hfb (fun τ2 A i f a1 a2 a3 a4 => w_told (c12 := c12) (pl := pl) O hXs hN h25 hef h34 hk0 hn0 hI hfit0 ht hn hfb a1 a2 a3 a4 kk) (ySay g).length 0 0 0 τ _ (by omega) ⟨rfl, rfl, fun k hk => absurd hk (by omega)⟩ qτ hfit bτ
