theorem yKp_co {σ τ : Mem} {g : Nat → Int32} (hg : zBG g) (h : zCB σ 172 g ∧ σ 0 3 = nI 1) (e : ∀ x c, (x = 0 ∨ (172 ≤ x ∧ x < 341)) → τ x c = σ x c) : zCB τ 172 g ∧ τ 0 3 = nI 1 :=
  ⟨zCB_co hg h.1 (fun a k p q => e a k (Or.inr ⟨p, by omega⟩)), by rw [e 0 3 (Or.inl rfl)]; exact h.2⟩
theorem yL_two {σ τ : Mem} {l : List Nat} (h : zL σ 1 l) (e : ∀ k, τ 1 k = σ 1 k ∧ τ 2 k = σ 2 k) : zL τ 1 l := yL_co h e
def yco : List Nat := [111]
def yck : List Nat := [107, 97]
def ycx : List Nat := [97, 32, 97]
set_option maxHeartbeats 4000000 in
theorem w_image {Z : ZT} {C : CX} {b N k25 v25 k34 v34 : Nat} {xs ef : Nat → Int32} (O : jOk Z C RL cL_law 19 13 494 600000 7302249) (hXs : jXs b N xs (c_A C) (c_s C) (c_s C).heap) (hN : N ≤ 600) (h25 : jK 25 "" k25 v25 0 ef (c_A C) (c_s C) (c_s C).heap) (hef : jF ef) (h34 : jK 34 "aeobtkle" k34 v34 8 (fun k => zsg (yal.getD k 0)) (c_A C) (c_s C) (c_s C).heap) {k0 n0 T t c12 words al as am ak qb vb : Nat} {q pl : Int32} {σ : Mem} {g kd md sz ld fb : Nat → Int32} (hk0 : k0 ≤ 300000) (hn0 : n0 ≤ 3000000) (hI : yI σ g kd md sz ld words) (hfit : hFit σ) (ht : t < 4) {k112 v112 k117 v117 k119 v119 : Nat} (h112 : jK 112 "o" k112 v112 1 (fun k => zsg (yco.getD k 0)) (c_A C) (c_s C) (c_s C).heap) (h117 : jK 117 "ka" k117 v117 2 (fun k => zsg (yck.getD k 0)) (c_A C) (c_s C) (c_s C).heap) (h119 : jK 119 "a a" k119 v119 3 (fun k => zsg (ycx.getD k 0)) (c_A C) (c_s C) (c_s C).heap) (kk : ∀ (σ2 : Mem) (g2 kd2 md2 sz2 ld2 : Nat → Int32) (w2 : Nat), yI σ2 g2 kd2 md2 sz2 ld2 w2 → ySay g2 = ySay g → hFit σ2 → uE Z C σ2 [(ak, .inl (zc Z 1, (20, .inl kd2))), (am, .inl (zc Z 1, (4, .inl md2))), (as, .inl (zc Z 1, (4, .inl sz2))), (al, .inl (zc Z 1, (80, .inl ld2))), (qb, .inr (12, [.ref vb, .int (nI 0), .int (nI 0), .int (nI 0)])), (vb, .inl (zc Z 0, ((ySay g).length, .inl fb)))] (k0 + 24) (n0 + 1576) 1377 [(13, .ref qb), (10, .int (nI t)), (8, .int (nI T)), (7, .ref al), (6, .ref as), (5, .ref am), (4, .int (nI w2)), (3, .ref ak), (2, .int (nI 1)), (1, .ref (za Z 0)), (0, .ref b)] []) : uE Z C σ [(ak, .inl (zc Z 1, (20, .inl kd))), (am, .inl (zc Z 1, (4, .inl md))), (as, .inl (zc Z 1, (4, .inl sz))), (al, .inl (zc Z 1, (80, .inl ld))), (qb, .inr (12, [.ref vb, .int (nI 0), .int (nI 0), .int (nI 0)])), (vb, .inl (zc Z 0, ((ySay g).length, .inl fb)))] k0 n0 1208 [(13, .ref qb), (12, .int (nI c12)), (11, .int pl), (10, .int (nI t)), (9, .int q), (8, .int (nI T)), (7, .ref al), (6, .ref as), (5, .ref am), (4, .int (nI words)), (3, .ref ak), (2, .int (nI 1)), (1, .ref (za Z 0)), (0, .ref b)] [] := by
  have hB := hI.1; have hG := hI.2.1; have hz := hI.2.2.1; have hW : znW g = words := hI.2.2.2.1; have h6 : 6 ≤ words := (hW ▸ hG.2.2.2.2.2.2.2 : 6 ≤ words); have h20 : words ≤ 20 := (hW ▸ hB.1.1.2 : words ≤ 20)
  show uE Z C σ [(ak, .inl (zc Z 1, (20, .inl kd))), (am, .inl (zc Z 1, (4, .inl md))), (as, .inl (zc Z 1, (4, .inl sz))), (al, .inl (zc Z 1, (80, .inl ld))), (qb, .inr (12, [.ref vb, .int (nI 0), .int (nI 0), .int (nI 0)])), (vb, .inl (zc Z 0, ((ySay g).length, .inl fb)))] _ _ _ [(13, .ref qb), (12, .int (nI c12)), (11, .int pl), (10, .int (nI t)), (9, .int q), (8, .int (nI T)), (7, .ref al), (6, .ref as), (5, .ref am), (4, .int (nI words)), (3, .ref ak), (2, .int (nI 1)), (1, .ref (za Z 0)), (0, .ref b)] []
  have g0 : g 0 = nI words := by rw [← hW]; exact hB.1.1.1
  have hF1 := hG.1
  have hH4 := hG.2.1
  obtain ⟨τ1, a1, a2, a3, a4⟩ := y_image hB
  rw [g0] at a1
  have hz0 : zL σ 1 [] := hz
  have hB1 : yB τ1 g := yB_co hB (fun a k p q => a4 a k (by omega) (by omega))
  have hz : zL τ1 1 [] := y_nil ((a4 1 1 (by omega) (by omega)).trans hz0.1)
  refine uv_iload_n O.1 dL_law_1208 11 rfl rfl ?_
  refine uv_aload_n O.1 dL_law_1209 12 rfl rfl ?_
  refine ue_ctV (as := []) (rest := [.int (nI 1)]) O hfit dL_law_1210 (fun Z2 hZ2 => ct_X11_image hZ2 rfl a1) vx_RL_109 rfl rfl rfl ⟨(Nat.le_of_ble_eq_true rfl), (Nat.le_of_ble_eq_true rfl)⟩ (Nat.le_of_ble_eq_true rfl) (by omega) (by omega) (fun _ hfit => ?_)
  show uE Z C τ1 [(ak, .inl (zc Z 1, (20, .inl kd))), (am, .inl (zc Z 1, (4, .inl md))), (as, .inl (zc Z 1, (4, .inl sz))), (al, .inl (zc Z 1, (80, .inl ld))), (qb, .inr (12, [.ref vb, .int (nI 0), .int (nI 0), .int (nI 0)])), (vb, .inl (zc Z 0, ((ySay g).length, .inl fb)))] _ _ _ [(13, .ref qb), (12, .int (nI c12)), (11, .int pl), (10, .int (nI t)), (9, .int q), (8, .int (nI T)), (7, .ref al), (6, .ref as), (5, .ref am), (4, .int (nI words)), (3, .ref ak), (2, .int (nI 1)), (1, .ref (za Z 0)), (0, .ref b)] [.int (nI words), .int (nI 1)]
  refine uv_iload O.1 dL_law_1213 9 rfl ?_
  refine uv_icmp_ne 1330 O.1 dL_law_1215 rfl (fun hh => absurd rfl hh) (fun _ => ?_)
  refine uv_aload_n O.1 dL_law_1218 12 rfl rfl ?_
  refine uv_ldcS O.1 dL_law_1219 h112.1 ?_
  refine ue_callB (rest := [.int (nI 1)]) O (jc_S (as := [.ref (za Z 0), .ref k112]) (rest := [.int (nI 1)]) O.1 dL_law_1221 (uq_in (by decide +kernel) (by decide +kernel)) (uq_in (by decide +kernel) (by decide +kernel)) (uq_in (by decide +kernel) (by decide +kernel)) (uq_in (by decide +kernel) (by decide +kernel)) ⟨by decide +kernel, by decide +kernel, (by decide +kernel : (parseMethodDescriptor yL_types.desc).map (fun d => d.parameters.length) = some 2)⟩ rfl ⟨(Nat.le_of_ble_eq_true rfl), (Nat.le_of_ble_eq_true rfl)⟩ (Nat.le_of_ble_eq_true rfl)) (fun sz => l_types Z k112 v112 (fun k => zsg (yco.getD k 0)) yco τ1 sz (by decide +kernel) (fun k hk => y_lt256 (by decide +kernel) hk) (fun _ _ => rfl) hz hfit) (jS_mv _ _ _ _) (jt_up O.1 (jS_mv _ _ _ _) h112.2) j_r0 (by omega) (by omega) (fun u => u) (fun u => []) (fun u => (List.append_nil _).symm) (fun τ2 hu => ?_)
  try dsimp only at hu
  obtain ⟨hz2, hfit, hfr2⟩ := hu
  show uE Z C τ2 [(ak, .inl (zc Z 1, (20, .inl kd))), (am, .inl (zc Z 1, (4, .inl md))), (as, .inl (zc Z 1, (4, .inl sz))), (al, .inl (zc Z 1, (80, .inl ld))), (qb, .inr (12, [.ref vb, .int (nI 0), .int (nI 0), .int (nI 0)])), (vb, .inl (zc Z 0, ((ySay g).length, .inl fb)))] _ _ _ [(13, .ref qb), (12, .int (nI c12)), (11, .int pl), (10, .int (nI t)), (9, .int q), (8, .int (nI T)), (7, .ref al), (6, .ref as), (5, .ref am), (4, .int (nI words)), (3, .ref ak), (2, .int (nI 1)), (1, .ref (za Z 0)), (0, .ref b)] [.int (nI 1), .int (nI 1)]
  refine uv_eqF 1330 O.1 dL_law_1224 rfl (by decide +kernel) ?_
  refine uv_aload_n O.1 dL_law_1227 12 rfl rfl ?_
  refine uv_iconst O.1 dL_law_1228 (nI 1) rfl ?_
  refine uv_iconst O.1 dL_law_1229 (nI 1) rfl ?_
  refine uv_iconst O.1 dL_law_1230 (nI 0) rfl ?_
  obtain ⟨τ3, g3, b1, b2, b3, b4, b5⟩ := y_ending (yB_co hB1 (fun x c p q => hfr2 x c (by omega) (by omega))) hz2 ⟨by decide +kernel, by decide +kernel⟩ hG.2.2.2.2.2.2.1
  have hz : zL τ3 1 [] := b3
  have w3 : znW g3 = words := (congrArg ix (b4 0 (by unfold zea; omega))).trans hW
  have f3 : znF g3 = 1 := (congrArg ix (b4 1 (by unfold zea; omega))).trans hF1
  have h3 : znH g3 0 = 4 := (congrArg ix (b4 (zfa 0) (by unfold zea zfa; omega))).trans hH4
  refine ue_ctV (as := [.int (nI 1), .int (nI 1), .int (nI 0)]) (rest := [.int (nI 1)]) O hfit dL_law_1231 (fun Z2 hZ2 => ct_X11_ending hZ2 rfl b1) vx_RL_114 rfl rfl rfl ⟨(Nat.le_of_ble_eq_true rfl), (Nat.le_of_ble_eq_true rfl)⟩ (Nat.le_of_ble_eq_true rfl) (by omega) (by omega) (fun _ hfit => ?_)
  show uE Z C τ3 [(ak, .inl (zc Z 1, (20, .inl kd))), (am, .inl (zc Z 1, (4, .inl md))), (as, .inl (zc Z 1, (4, .inl sz))), (al, .inl (zc Z 1, (80, .inl ld))), (qb, .inr (12, [.ref vb, .int (nI 0), .int (nI 0), .int (nI 0)])), (vb, .inl (zc Z 0, ((ySay g).length, .inl fb)))] _ _ _ [(13, .ref qb), (12, .int (nI c12)), (11, .int pl), (10, .int (nI t)), (9, .int q), (8, .int (nI T)), (7, .ref al), (6, .ref as), (5, .ref am), (4, .int (nI words)), (3, .ref ak), (2, .int (nI 1)), (1, .ref (za Z 0)), (0, .ref b)] [.int (nI 0), .int (nI 1)]
  refine uv_neF 1330 O.1 dL_law_1234 rfl rfl ?_
  refine uv_aload_n O.1 dL_law_1237 12 rfl rfl ?_
  refine uv_ldcS O.1 dL_law_1238 h117.1 ?_
  refine ue_callB (rest := [.int (nI 1)]) O (jc_S (as := [.ref (za Z 0), .ref k117]) (rest := [.int (nI 1)]) O.1 dL_law_1240 (uq_in (by decide +kernel) (by decide +kernel)) (uq_in (by decide +kernel) (by decide +kernel)) (uq_in (by decide +kernel) (by decide +kernel)) (uq_in (by decide +kernel) (by decide +kernel)) ⟨by decide +kernel, by decide +kernel, (by decide +kernel : (parseMethodDescriptor yL_types.desc).map (fun d => d.parameters.length) = some 2)⟩ rfl ⟨(Nat.le_of_ble_eq_true rfl), (Nat.le_of_ble_eq_true rfl)⟩ (Nat.le_of_ble_eq_true rfl)) (fun sz => l_types Z k117 v117 (fun k => zsg (yck.getD k 0)) yck τ3 sz (by decide +kernel) (fun k hk => y_lt256 (by decide +kernel) hk) (fun _ _ => rfl) hz hfit) (jS_mv _ _ _ _) (jt_up O.1 (jS_mv _ _ _ _) h117.2) j_r0 (by omega) (by omega) (fun u => u) (fun u => []) (fun u => (List.append_nil _).symm) (fun τ4 hu => ?_)
  try dsimp only at hu
  obtain ⟨hz4, hfit, hfr4⟩ := hu
  show uE Z C τ4 [(ak, .inl (zc Z 1, (20, .inl kd))), (am, .inl (zc Z 1, (4, .inl md))), (as, .inl (zc Z 1, (4, .inl sz))), (al, .inl (zc Z 1, (80, .inl ld))), (qb, .inr (12, [.ref vb, .int (nI 0), .int (nI 0), .int (nI 0)])), (vb, .inl (zc Z 0, ((ySay g).length, .inl fb)))] _ _ _ [(13, .ref qb), (12, .int (nI c12)), (11, .int pl), (10, .int (nI t)), (9, .int q), (8, .int (nI T)), (7, .ref al), (6, .ref as), (5, .ref am), (4, .int (nI words)), (3, .ref ak), (2, .int (nI 1)), (1, .ref (za Z 0)), (0, .ref b)] [.int (nI 1), .int (nI 1)]
  refine uv_eqF 1330 O.1 dL_law_1243 rfl (by decide +kernel) ?_
  have hB4 : yB τ4 g3 := yB_co b2 (fun x c p q => hfr4 x c (by omega) (by omega))
  have k4 := yKp_co (τ := τ4) hB.1 ⟨a2, a3⟩ (fun x c p => by rw [hfr4 _ _ (by omega) (by omega), b5 _ _ (by omega) (by omega) (by omega), hfr2 _ _ (by omega) (by omega)])
  have t4 : ∀ x c, 375 ≤ x → x < 383 → τ4 x c = σ x c := fun x c p q => by rw [hfr4 _ _ (by omega) (by omega), b5 _ _ (by omega) (by omega) (by omega), hfr2 _ _ (by omega) (by omega), a4 _ _ (by omega) (by omega)]
  refine uv_iload O.1 dL_law_1246 9 rfl ?_
  refine uv_bipush O.1 dL_law_1248 (nI 20) rfl ?_
  have J1299 : ∀ (τ5 : Mem) (g5 : Nat → Int32), yB τ5 g5 → zL τ5 1 [] → znF g5 = 1 → znH g5 0 = 4 → (zCB τ5 172 g ∧ τ5 0 3 = nI 1) → (∀ x c, 375 ≤ x → x < 383 → τ5 x c = σ x c) → hFit τ5 → uE Z C τ5 [(ak, .inl (zc Z 1, (20, .inl kd))), (am, .inl (zc Z 1, (4, .inl md))), (as, .inl (zc Z 1, (4, .inl sz))), (al, .inl (zc Z 1, (80, .inl ld))), (qb, .inr (12, [.ref vb, .int (nI 0), .int (nI 0), .int (nI 0)])), (vb, .inl (zc Z 0, ((ySay g).length, .inl fb)))] k0 n0 1299 [(13, .ref qb), (12, .int (nI c12)), (11, .int pl), (10, .int (nI t)), (9, .int q), (8, .int (nI T)), (7, .ref al), (6, .ref as), (5, .ref am), (4, .int (nI words)), (3, .ref ak), (2, .int (nI 1)), (1, .ref (za Z 0)), (0, .ref b)] [.int (nI 1)] := by
    intro τ5 g5 hB5 hz5 f5 h5 k5 t5 hfit
    refine uv_aload_n O.1 dL_law_1299 12 rfl rfl ?_
    refine uv_iconst O.1 dL_law_1300 (nI 0) rfl ?_
    refine uv_iconst O.1 dL_law_1301 (nI 3) rfl ?_
    obtain ⟨τ6, c1, c2, c3⟩ := y_desk (f := 0) (m := 3) hB5 (by rw [f5]; omega) (by omega)
    rw [h5] at c1
    have hz : zL τ6 1 [] := y_nil ((c3 1 1 (by omega) (by omega)).trans hz5.1)
    refine ue_ctV (as := [.int (nI 0), .int (nI 3)]) (rest := [.int (nI 1)]) O hfit dL_law_1302 (fun Z2 hZ2 => ct_X11_desk hZ2 rfl c1) vx_RL_71 rfl rfl rfl ⟨(Nat.le_of_ble_eq_true rfl), (Nat.le_of_ble_eq_true rfl)⟩ (Nat.le_of_ble_eq_true rfl) (by omega) (by omega) (fun _ hfit => ?_)
    show uE Z C τ6 [(ak, .inl (zc Z 1, (20, .inl kd))), (am, .inl (zc Z 1, (4, .inl md))), (as, .inl (zc Z 1, (4, .inl sz))), (al, .inl (zc Z 1, (80, .inl ld))), (qb, .inr (12, [.ref vb, .int (nI 0), .int (nI 0), .int (nI 0)])), (vb, .inl (zc Z 0, ((ySay g).length, .inl fb)))] _ _ _ [(13, .ref qb), (12, .int (nI c12)), (11, .int pl), (10, .int (nI t)), (9, .int q), (8, .int (nI T)), (7, .ref al), (6, .ref as), (5, .ref am), (4, .int (nI words)), (3, .ref ak), (2, .int (nI 1)), (1, .ref (za Z 0)), (0, .ref b)] [.int (nI 4), .int (nI 1)]
    refine uv_iconst O.1 dL_law_1305 (nI 4) rfl ?_
    refine uv_icmp_ne 1330 O.1 dL_law_1306 rfl (fun hh => absurd rfl hh) (fun _ => ?_)
    refine uv_aload_n O.1 dL_law_1309 12 rfl rfl ?_
    refine uv_ldcS O.1 dL_law_1310 h119.1 ?_
    refine ue_callB (rest := [.int (nI 1)]) O (jc_S (as := [.ref (za Z 0), .ref k119]) (rest := [.int (nI 1)]) O.1 dL_law_1312 (uq_in (by decide +kernel) (by decide +kernel)) (uq_in (by decide +kernel) (by decide +kernel)) (uq_in (by decide +kernel) (by decide +kernel)) (uq_in (by decide +kernel) (by decide +kernel)) ⟨by decide +kernel, by decide +kernel, (by decide +kernel : (parseMethodDescriptor yL_types.desc).map (fun d => d.parameters.length) = some 2)⟩ rfl ⟨(Nat.le_of_ble_eq_true rfl), (Nat.le_of_ble_eq_true rfl)⟩ (Nat.le_of_ble_eq_true rfl)) (fun sz => l_types Z k119 v119 (fun k => zsg (ycx.getD k 0)) ycx τ6 sz (by decide +kernel) (fun k hk => y_lt256 (by decide +kernel) hk) (fun _ _ => rfl) hz hfit) (jS_mv _ _ _ _) (jt_up O.1 (jS_mv _ _ _ _) h119.2) j_r0 (by omega) (by omega) (fun u => u) (fun u => []) (fun u => (List.append_nil _).symm) (fun τ7 hu => ?_)
    try dsimp only at hu
    obtain ⟨hz7, hfit, hfr7⟩ := hu
    show uE Z C τ7 [(ak, .inl (zc Z 1, (20, .inl kd))), (am, .inl (zc Z 1, (4, .inl md))), (as, .inl (zc Z 1, (4, .inl sz))), (al, .inl (zc Z 1, (80, .inl ld))), (qb, .inr (12, [.ref vb, .int (nI 0), .int (nI 0), .int (nI 0)])), (vb, .inl (zc Z 0, ((ySay g).length, .inl fb)))] _ _ _ [(13, .ref qb), (12, .int (nI c12)), (11, .int pl), (10, .int (nI t)), (9, .int q), (8, .int (nI T)), (7, .ref al), (6, .ref as), (5, .ref am), (4, .int (nI words)), (3, .ref ak), (2, .int (nI 1)), (1, .ref (za Z 0)), (0, .ref b)] [.int (nI 1), .int (nI 1)]
    refine uv_eqF 1330 O.1 dL_law_1315 rfl (by decide +kernel) ?_
    refine uv_aload_n O.1 dL_law_1318 12 rfl rfl ?_
    obtain ⟨τ8, g8, d1, d2, d3, d4, d5⟩ := y_text (yB_co c2 (fun x c p q => hfr7 x c (by omega) (by omega))) (by decide +kernel) hz7 (by decide +kernel)
    rw [show (zps ycx).length = 2 from by decide +kernel] at d1
    refine ue_ctV (as := []) (rest := [.int (nI 1)]) O hfit dL_law_1319 (fun Z2 hZ2 => ct_X11_text hZ2 rfl d1) vx_RL_121 rfl rfl rfl ⟨(Nat.le_of_ble_eq_true rfl), (Nat.le_of_ble_eq_true rfl)⟩ (Nat.le_of_ble_eq_true rfl) (by omega) (by omega) (fun _ hfit => ?_)
    show uE Z C τ8 [(ak, .inl (zc Z 1, (20, .inl kd))), (am, .inl (zc Z 1, (4, .inl md))), (as, .inl (zc Z 1, (4, .inl sz))), (al, .inl (zc Z 1, (80, .inl ld))), (qb, .inr (12, [.ref vb, .int (nI 0), .int (nI 0), .int (nI 0)])), (vb, .inl (zc Z 0, ((ySay g).length, .inl fb)))] _ _ _ [(13, .ref qb), (12, .int (nI c12)), (11, .int pl), (10, .int (nI t)), (9, .int q), (8, .int (nI T)), (7, .ref al), (6, .ref as), (5, .ref am), (4, .int (nI words)), (3, .ref ak), (2, .int (nI 1)), (1, .ref (za Z 0)), (0, .ref b)] [.int (nI 2), .int (nI 1)]
    refine uv_iconst O.1 dL_law_1322 (nI 2) rfl ?_
    refine uv_icmp_ne 1330 O.1 dL_law_1323 rfl (fun hh => absurd rfl hh) (fun _ => ?_)
    refine uv_iconst O.1 dL_law_1326 (nI 1) rfl ?_
    refine uv_goto 1331 O.1 dL_law_1327 rfl ?_
    refine uv_iand (z := nI 1) O.1 dL_law_1331 (by decide +kernel) ?_
    refine uv_istore_n O.1 dL_law_1332 rfl (by omega) [(2, .int (nI 1)), (13, .ref qb), (12, .int (nI c12)), (11, .int pl), (10, .int (nI t)), (9, .int q), (8, .int (nI T)), (7, .ref al), (6, .ref as), (5, .ref am), (4, .int (nI words)), (3, .ref ak), (1, .ref (za Z 0)), (0, .ref b)] rfl ?_
    have k8 := yKp_co (τ := τ8) hB.1 k5 (fun x c p => by rw [d5 _ _ (by omega) (by omega) (by omega), hfr7 _ _ (by omega) (by omega), c3 _ _ (by omega) (by omega)])
    obtain ⟨τ9, e1, e2, e3⟩ := y_back (g' := g) hB.1 k8.1 k8.2 d2.2.2
    rw [g0] at e1
    refine uv_iload_n O.1 dL_law_1333 0 rfl rfl ?_
    refine uv_aload_n O.1 dL_law_1334 12 rfl rfl ?_
    refine ue_ctV (as := []) (rest := [.int (nI 1)]) O hfit dL_law_1335 (fun Z2 hZ2 => ct_X11_back hZ2 rfl e1) vx_RL_124 rfl rfl rfl ⟨(Nat.le_of_ble_eq_true rfl), (Nat.le_of_ble_eq_true rfl)⟩ (Nat.le_of_ble_eq_true rfl) (by omega) (by omega) (fun _ hfit => ?_)
    show uE Z C τ9 [(ak, .inl (zc Z 1, (20, .inl kd))), (am, .inl (zc Z 1, (4, .inl md))), (as, .inl (zc Z 1, (4, .inl sz))), (al, .inl (zc Z 1, (80, .inl ld))), (qb, .inr (12, [.ref vb, .int (nI 0), .int (nI 0), .int (nI 0)])), (vb, .inl (zc Z 0, ((ySay g).length, .inl fb)))] _ _ _ [(2, .int (nI 1)), (13, .ref qb), (12, .int (nI c12)), (11, .int pl), (10, .int (nI t)), (9, .int q), (8, .int (nI T)), (7, .ref al), (6, .ref as), (5, .ref am), (4, .int (nI words)), (3, .ref ak), (1, .ref (za Z 0)), (0, .ref b)] [.int (nI words), .int (nI 1)]
    refine uv_iload O.1 dL_law_1338 10 rfl ?_
    refine uv_icmp_ne 1374 O.1 dL_law_1340 rfl (fun hh => absurd rfl hh) (fun _ => ?_)
    have nc0 := y_count0 e2
    rw [g0] at nc0
    have n1 := y_count1 e2
    rw [hB.1.2.1.1, show ix (g 1) = 1 from hF1] at n1
    refine uv_aload_n O.1 dL_law_1343 12 rfl rfl ?_
    refine uv_iconst O.1 dL_law_1344 (nI 0) rfl ?_
    refine ue_ctV (as := [.int (nI 0)]) (rest := [.int (nI 1)]) O hfit dL_law_1345 (fun Z2 hZ2 => ct_X11_count hZ2 rfl nc0) vx_RL_127 rfl rfl rfl ⟨(Nat.le_of_ble_eq_true rfl), (Nat.le_of_ble_eq_true rfl)⟩ (Nat.le_of_ble_eq_true rfl) (by omega) (by omega) (fun _ hfit => ?_)
    show uE Z C τ9 [(ak, .inl (zc Z 1, (20, .inl kd))), (am, .inl (zc Z 1, (4, .inl md))), (as, .inl (zc Z 1, (4, .inl sz))), (al, .inl (zc Z 1, (80, .inl ld))), (qb, .inr (12, [.ref vb, .int (nI 0), .int (nI 0), .int (nI 0)])), (vb, .inl (zc Z 0, ((ySay g).length, .inl fb)))] _ _ _ [(2, .int (nI 1)), (13, .ref qb), (12, .int (nI c12)), (11, .int pl), (10, .int (nI t)), (9, .int q), (8, .int (nI T)), (7, .ref al), (6, .ref as), (5, .ref am), (4, .int (nI words)), (3, .ref ak), (1, .ref (za Z 0)), (0, .ref b)] [.int (nI words), .int (nI 1)]
    refine uv_iload O.1 dL_law_1348 10 rfl ?_
    refine uv_icmp_ne 1374 O.1 dL_law_1350 rfl (fun hh => absurd rfl hh) (fun _ => ?_)
    refine uv_aload_n O.1 dL_law_1353 12 rfl rfl ?_
    refine uv_iconst O.1 dL_law_1354 (nI 1) rfl ?_
    refine ue_ctV (as := [.int (nI 1)]) (rest := [.int (nI 1)]) O hfit dL_law_1355 (fun Z2 hZ2 => ct_X11_count hZ2 rfl n1) vx_RL_127 rfl rfl rfl ⟨(Nat.le_of_ble_eq_true rfl), (Nat.le_of_ble_eq_true rfl)⟩ (Nat.le_of_ble_eq_true rfl) (by omega) (by omega) (fun _ hfit => ?_)
    show uE Z C τ9 [(ak, .inl (zc Z 1, (20, .inl kd))), (am, .inl (zc Z 1, (4, .inl md))), (as, .inl (zc Z 1, (4, .inl sz))), (al, .inl (zc Z 1, (80, .inl ld))), (qb, .inr (12, [.ref vb, .int (nI 0), .int (nI 0), .int (nI 0)])), (vb, .inl (zc Z 0, ((ySay g).length, .inl fb)))] _ _ _ [(2, .int (nI 1)), (13, .ref qb), (12, .int (nI c12)), (11, .int pl), (10, .int (nI t)), (9, .int q), (8, .int (nI T)), (7, .ref al), (6, .ref as), (5, .ref am), (4, .int (nI words)), (3, .ref ak), (1, .ref (za Z 0)), (0, .ref b)] [.int (nI 1), .int (nI 1)]
    refine uv_iconst O.1 dL_law_1358 (nI 1) rfl ?_
    refine uv_icmp_ne 1374 O.1 dL_law_1359 rfl (fun hh => absurd rfl hh) (fun _ => ?_)
    refine uv_aload_n O.1 dL_law_1362 12 rfl rfl ?_
    refine uv_iconst O.1 dL_law_1363 (nI 2) rfl ?_
    refine ue_ctV (as := [.int (nI 2)]) (rest := [.int (nI 1)]) O hfit dL_law_1364 (fun Z2 hZ2 => ct_X11_count hZ2 rfl (y_count2 e2 hG.2.2.2.2.2.1)) vx_RL_127 rfl rfl rfl ⟨(Nat.le_of_ble_eq_true rfl), (Nat.le_of_ble_eq_true rfl)⟩ (Nat.le_of_ble_eq_true rfl) (by omega) (by omega) (fun _ hfit => ?_)
    show uE Z C τ9 [(ak, .inl (zc Z 1, (20, .inl kd))), (am, .inl (zc Z 1, (4, .inl md))), (as, .inl (zc Z 1, (4, .inl sz))), (al, .inl (zc Z 1, (80, .inl ld))), (qb, .inr (12, [.ref vb, .int (nI 0), .int (nI 0), .int (nI 0)])), (vb, .inl (zc Z 0, ((ySay g).length, .inl fb)))] _ _ _ [(2, .int (nI 1)), (13, .ref qb), (12, .int (nI c12)), (11, .int pl), (10, .int (nI t)), (9, .int q), (8, .int (nI T)), (7, .ref al), (6, .ref as), (5, .ref am), (4, .int (nI words)), (3, .ref ak), (1, .ref (za Z 0)), (0, .ref b)] [.int (nI 0), .int (nI 1)]
    refine uv_neF 1374 O.1 dL_law_1367 rfl rfl ?_
    refine uv_iconst O.1 dL_law_1370 (nI 1) rfl ?_
    refine uv_goto 1375 O.1 dL_law_1371 rfl ?_
    refine uv_iand (z := nI 1) O.1 dL_law_1375 (by decide +kernel) ?_
    refine uv_istore_n O.1 dL_law_1376 rfl (by omega) [(2, .int (nI 1)), (13, .ref qb), (12, .int (nI c12)), (11, .int pl), (10, .int (nI t)), (9, .int q), (8, .int (nI T)), (7, .ref al), (6, .ref as), (5, .ref am), (4, .int (nI words)), (3, .ref ak), (1, .ref (za Z 0)), (0, .ref b)] rfl ?_
    refine uv_sub [1, 4, 6, 7, 8, 9, 10, 11, 0, 12, 13] rfl ?_
    refine uv_widen (k' := k0 + 24) (n' := n0 + 1576) (by omega) (by omega) ?_
    exact kk τ9 g kd md sz ld words ⟨e2, hG, y_nil ((e3 1 1 (by omega)).trans d3.1), hW, hI.2.2.2.2.1, yT_co hI.2.2.2.2.2 (fun x c p q => by rw [e3 _ _ (by omega), d5 _ _ (by omega) (by omega) (by omega), hfr7 _ _ (by omega) (by omega), c3 _ _ (by omega) (by omega)]; exact t5 x c p q)⟩ rfl hfit
  have hfitA := hfit
  by_cases hw : words = 20
  · subst hw
    refine uv_icmp_eq 1265 O.1 dL_law_1250 rfl (fun _ => ?_) (fun hh => absurd rfl hh)
    refine uv_iload O.1 dL_law_1265 9 rfl ?_
    refine uv_bipush O.1 dL_law_1267 (nI 20) rfl ?_
    refine uv_icmp_lt 1299 O.1 dL_law_1269 rfl (fun hh => absurd hh (by decide +kernel)) (fun _ => ?_)
    refine uv_aload_n O.1 dL_law_1272 12 rfl rfl ?_
    refine uv_iconst O.1 dL_law_1273 (nI 1) rfl ?_
    refine uv_bipush O.1 dL_law_1274 (nI 97) rfl ?_
    refine uv_iconst O.1 dL_law_1276 (nI 0) rfl ?_
    refine uv_iconst O.1 dL_law_1277 (nI 0) rfl ?_
    refine uv_iconst O.1 dL_law_1278 (nI 0) rfl ?_
    refine uv_iconst O.1 dL_law_1279 (nI 0) rfl ?_
    obtain ⟨τ5, u1, u2, u3⟩ := y_feed (n := 1) (j2 := 97) (j3 := 0) (j4 := 0) (j5 := 0) (j6 := 0) (by omega) (by omega) (by decide +kernel) hz4 (by omega) (by omega) (by omega) (by omega) (by omega)
    have u1' : fX11_feed τ4 0 (nI 1) (nI 97) (nI 0) (nI 0) (nI 0) (nI 0) = some (nI 3, τ5) := u1
    have hB5 : yB τ5 g3 := yB_co hB4 (fun x c p q => u3 x c (by omega) (by omega))
    have u4 := y_wordFull hB5 (a := 1) (b := 1) (c := 1) (by omega) (by omega) (by omega) (by decide +kernel) u2 ⟨by decide +kernel, by decide +kernel, by decide +kernel⟩ w3
    refine ue_ctV (as := [.int (nI 1), .int (nI 97), .int (nI 0), .int (nI 0), .int (nI 0), .int (nI 0)]) (rest := [.int (nI 1)]) O hfitA dL_law_1280 (fun Z2 hZ2 => ct_X11_feed hZ2 rfl u1') vx_RL_19 rfl rfl rfl ⟨(Nat.le_of_ble_eq_true rfl), (Nat.le_of_ble_eq_true rfl)⟩ (Nat.le_of_ble_eq_true rfl) (by omega) (by omega) (fun _ hfitA => ?_)
    show uE Z C τ5 [(ak, .inl (zc Z 1, (20, .inl kd))), (am, .inl (zc Z 1, (4, .inl md))), (as, .inl (zc Z 1, (4, .inl sz))), (al, .inl (zc Z 1, (80, .inl ld))), (qb, .inr (12, [.ref vb, .int (nI 0), .int (nI 0), .int (nI 0)])), (vb, .inl (zc Z 0, ((ySay g).length, .inl fb)))] _ _ _ [(13, .ref qb), (12, .int (nI c12)), (11, .int pl), (10, .int (nI t)), (9, .int q), (8, .int (nI T)), (7, .ref al), (6, .ref as), (5, .ref am), (4, .int (nI 20)), (3, .ref ak), (2, .int (nI 1)), (1, .ref (za Z 0)), (0, .ref b)] [.int (nI 3), .int (nI 1)]
    refine uv_iconst O.1 dL_law_1283 (nI 3) rfl ?_
    refine uv_icmp_ne 1330 O.1 dL_law_1284 rfl (fun hh => absurd rfl hh) (fun _ => ?_)
    refine uv_aload_n O.1 dL_law_1287 12 rfl rfl ?_
    refine uv_iconst O.1 dL_law_1288 (nI 1) rfl ?_
    refine uv_iconst O.1 dL_law_1289 (nI 1) rfl ?_
    refine uv_iconst O.1 dL_law_1290 (nI 1) rfl ?_
    refine ue_ctV (as := [.int (nI 1), .int (nI 1), .int (nI 1)]) (rest := [.int (nI 1)]) O hfitA dL_law_1291 (fun Z2 hZ2 => ct_X11_word hZ2 rfl u4) vx_RL_62 rfl rfl rfl ⟨(Nat.le_of_ble_eq_true rfl), (Nat.le_of_ble_eq_true rfl)⟩ (Nat.le_of_ble_eq_true rfl) (by omega) (by omega) (fun _ hfitA => ?_)
    show uE Z C (mw τ5 1 1 (nI 0)) [(ak, .inl (zc Z 1, (20, .inl kd))), (am, .inl (zc Z 1, (4, .inl md))), (as, .inl (zc Z 1, (4, .inl sz))), (al, .inl (zc Z 1, (80, .inl ld))), (qb, .inr (12, [.ref vb, .int (nI 0), .int (nI 0), .int (nI 0)])), (vb, .inl (zc Z 0, ((ySay g).length, .inl fb)))] _ _ _ [(13, .ref qb), (12, .int (nI c12)), (11, .int pl), (10, .int (nI t)), (9, .int q), (8, .int (nI T)), (7, .ref al), (6, .ref as), (5, .ref am), (4, .int (nI 20)), (3, .ref ak), (2, .int (nI 1)), (1, .ref (za Z 0)), (0, .ref b)] [.int (-nI 4), .int (nI 1)]
    refine uv_bipush O.1 dL_law_1294 (-nI 4) rfl ?_
    refine uv_icmp_ne 1330 O.1 dL_law_1296 rfl (fun hh => absurd rfl hh) (fun _ => ?_)
    have mf : ∀ x c, ¬ (x = 1 ∧ c = 1) → (mw τ5 1 1 (nI 0)) x c = τ5 x c := fun x c p => by simp (disch := omega) only [zM]
    exact J1299 _ g3 (yB_co hB5 (fun x c p q => mf x c (by omega))) (y_nil (by simp only [zM])) f3 h3 (yKp_co hB.1 k4 (fun x c p => by rw [mf _ _ (by omega), u3 _ _ (by omega) (by omega)])) (fun x c p q => by rw [mf _ _ (by omega), u3 _ _ (by omega) (by omega)]; exact t4 x c p q) hfitA
  · refine uv_icmp_eq 1265 O.1 dL_law_1250 rfl (fun hh => absurd hh (j_ne hw (by omega) (by omega))) (fun _ => ?_)
    refine uv_aload_n O.1 dL_law_1253 12 rfl rfl ?_
    refine uv_iconst O.1 dL_law_1254 (nI 1) rfl ?_
    refine uv_iconst O.1 dL_law_1255 (nI 1) rfl ?_
    refine uv_iconst O.1 dL_law_1256 (nI 1) rfl ?_
    obtain ⟨τ5, u1, u2, u3, u4⟩ := y_word hB4 (a := 1) (b := 1) (c := 1) (l := yck) (by omega) (by omega) (by omega) (by decide +kernel) hz4 ⟨by decide +kernel, by decide +kernel, by decide +kernel⟩ w3 (by omega)
    refine ue_ctV (as := [.int (nI 1), .int (nI 1), .int (nI 1)]) (rest := [.int (nI 1)]) O hfit dL_law_1257 (fun Z2 hZ2 => ct_X11_word hZ2 rfl u1) vx_RL_62 rfl rfl rfl ⟨(Nat.le_of_ble_eq_true rfl), (Nat.le_of_ble_eq_true rfl)⟩ (Nat.le_of_ble_eq_true rfl) (by omega) (by omega) (fun _ hfit => ?_)
    show uE Z C τ5 [(ak, .inl (zc Z 1, (20, .inl kd))), (am, .inl (zc Z 1, (4, .inl md))), (as, .inl (zc Z 1, (4, .inl sz))), (al, .inl (zc Z 1, (80, .inl ld))), (qb, .inr (12, [.ref vb, .int (nI 0), .int (nI 0), .int (nI 0)])), (vb, .inl (zc Z 0, ((ySay g).length, .inl fb)))] _ _ _ [(13, .ref qb), (12, .int (nI c12)), (11, .int pl), (10, .int (nI t)), (9, .int q), (8, .int (nI T)), (7, .ref al), (6, .ref as), (5, .ref am), (4, .int (nI words)), (3, .ref ak), (2, .int (nI 1)), (1, .ref (za Z 0)), (0, .ref b)] [.int (nI words), .int (nI 1)]
    refine uv_iload O.1 dL_law_1260 9 rfl ?_
    refine uv_icmp_ne 1330 O.1 dL_law_1262 rfl (fun hh => absurd rfl hh) (fun _ => ?_)
    refine uv_iload O.1 dL_law_1265 9 rfl ?_
    refine uv_bipush O.1 dL_law_1267 (nI 20) rfl ?_
    refine uv_icmp_lt 1299 O.1 dL_law_1269 rfl (fun _ => ?_) (fun hh => absurd (j_lt (by omega) (by omega)) hh)
    exact J1299 _ _ u2 u3 ((congrArg ix (ywd_o (by omega) (by omega))).trans f3) ((congrArg ix (ywd_o (by unfold zfa; omega) (by unfold zfa; omega))).trans h3) (yKp_co hB.1 k4 (fun x c p => u4 x c (by omega) (by omega) (by omega))) (fun x c p q => by rw [u4 _ _ (by omega) (by omega) (by omega)]; exact t4 x c p q) hfit
