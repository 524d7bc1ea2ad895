theorem y_n24 : ∀ r : Fin 24, (nI r.1 - nI 2 < 0 ∧ nI r.1 - nI 2 ≤ nI 20 ∧ ¬ nI 0 ≤ nI r.1 - nI 2) ∨ (nI r.1 - nI 2 = nI (r.1 - 2) ∧ 2 ≤ r.1 ∧ r.1 - 2 ≤ 20) ∨ nI r.1 - nI 2 = nI 21 := by decide +kernel
theorem y_20t : ∀ t : Fin 4, nI 20 * nI t.1 = nI (20 * t.1) := by decide +kernel
set_option maxHeartbeats 4000000 in
theorem w_tray {Z : ZT} {C : CX} {b N k25 v25 k34 v34 : Nat} {xs ef : Nat → Int32} (O : jOk Z C RL cL_law 19 13 494 600000 7302249) (hXs : jXs b N xs (c_A C) (c_s C) (c_s C).heap) (hN : N ≤ 600) (h25 : jK 25 "" k25 v25 0 ef (c_A C) (c_s C) (c_s C).heap) (hef : jF ef) (h34 : jK 34 "aeobtkle" k34 v34 8 (fun k => zsg (yal.getD k 0)) (c_A C) (c_s C) (c_s C).heap) {k0 n0 T t c12 words al as am ak qb vb : Nat} {q pl : Int32} {σ : Mem} {g kd md sz ld fb : Nat → Int32} (hk0 : k0 ≤ 300000) (hn0 : n0 ≤ 3000000) (hI : yI σ g kd md sz ld words) (hfit : hFit σ) (ht : t < 4)  (kk : ∀ (σ2 : Mem) (g2 kd2 md2 sz2 ld2 : Nat → Int32) (w2 : Nat), yI σ2 g2 kd2 md2 sz2 ld2 w2 → ySay g2 = ySay g → hFit σ2 → uE Z C σ2 [(ak, .inl (zc Z 1, (20, .inl kd2))), (am, .inl (zc Z 1, (4, .inl md2))), (as, .inl (zc Z 1, (4, .inl sz2))), (al, .inl (zc Z 1, (80, .inl ld2))), (qb, .inr (12, [.ref vb, .int (nI 0), .int (nI 0), .int (nI 0)])), (vb, .inl (zc Z 0, ((ySay g).length, .inl fb)))] (k0 + 24) (n0 + 1576) 1377 [(13, .ref qb), (10, .int (nI t)), (8, .int (nI T)), (7, .ref al), (6, .ref as), (5, .ref am), (4, .int (nI w2)), (3, .ref ak), (2, .int (nI 1)), (1, .ref (za Z 0)), (0, .ref b)] []) : uE Z C σ [(ak, .inl (zc Z 1, (20, .inl kd))), (am, .inl (zc Z 1, (4, .inl md))), (as, .inl (zc Z 1, (4, .inl sz))), (al, .inl (zc Z 1, (80, .inl ld))), (qb, .inr (12, [.ref vb, .int (nI 0), .int (nI 0), .int (nI 0)])), (vb, .inl (zc Z 0, ((ySay g).length, .inl fb)))] k0 n0 231 [(13, .ref qb), (12, .int (nI c12)), (11, .int pl), (10, .int (nI t)), (9, .int q), (8, .int (nI T)), (7, .ref al), (6, .ref as), (5, .ref am), (4, .int (nI words)), (3, .ref ak), (2, .int (nI 1)), (1, .ref (za Z 0)), (0, .ref b)] [] := by
  have hB := hI.1; have hG := hI.2.1; have hz := hI.2.2.1; have hW : znW g = words := hI.2.2.2.1; have h6 : 6 ≤ words := (hW ▸ hG.2.2.2.2.2.2.2 : 6 ≤ words); have h20 : words ≤ 20 := (hW ▸ hB.1.1.2 : words ≤ 20)
  show uE Z C σ [(ak, .inl (zc Z 1, (20, .inl kd))), (am, .inl (zc Z 1, (4, .inl md))), (as, .inl (zc Z 1, (4, .inl sz))), (al, .inl (zc Z 1, (80, .inl ld))), (qb, .inr (12, [.ref vb, .int (nI 0), .int (nI 0), .int (nI 0)])), (vb, .inl (zc Z 0, ((ySay g).length, .inl fb)))] _ _ _ [(13, .ref qb), (12, .int (nI c12)), (11, .int pl), (10, .int (nI t)), (9, .int q), (8, .int (nI T)), (7, .ref al), (6, .ref as), (5, .ref am), (4, .int (nI words)), (3, .ref ak), (2, .int (nI 1)), (1, .ref (za Z 0)), (0, .ref b)] []
  refine uv_iload O.1 dL_law_231 4 rfl ?_
  refine uv_bipush O.1 dL_law_233 (nI 10) rfl ?_
  refine uv_ishr (z := (q >>> ((nI 10) &&& 31))) O.1 dL_law_235 rfl ?_
  obtain ⟨m, hm, em⟩ : ∃ m, m ≤ 7 ∧ (q >>> (nI 10 &&& 31)) &&& nI 7 = nI m := ⟨_, (y_and _ 7 (by omega)).2, (y_and _ 7 (by omega)).1⟩
  refine uv_bipush O.1 dL_law_236 (nI 7) rfl ?_
  refine uv_iand (z := nI m) O.1 dL_law_238 em ?_
  refine uv_bipush O.1 dL_law_239 (nI 6) rfl ?_
  refine uv_irem (z := nI (m % 6)) O.1 dL_law_241 (by decide +kernel) (y_rem.1 ⟨m, by omega⟩).1 ?_
  refine uv_istore O.1 dL_law_242 (by omega) [(14, .int (nI (m % 6))), (13, .ref qb), (12, .int (nI c12)), (11, .int pl), (10, .int (nI t)), (9, .int q), (8, .int (nI T)), (7, .ref al), (6, .ref as), (5, .ref am), (4, .int (nI words)), (3, .ref ak), (2, .int (nI 1)), (1, .ref (za Z 0)), (0, .ref b)] rfl ?_
  refine uv_iload O.1 dL_law_244 5 rfl ?_
  refine uv_bipush O.1 dL_law_246 (nI 13) rfl ?_
  refine uv_ishr (z := (q >>> ((nI 13) &&& 31))) O.1 dL_law_248 rfl ?_
  obtain ⟨r, hr, er⟩ : ∃ r, r ≤ 31 ∧ (q >>> (nI 13 &&& 31)) &&& nI 31 = nI r := ⟨_, (y_and _ 31 (by omega)).2, (y_and _ 31 (by omega)).1⟩
  refine uv_bipush O.1 dL_law_249 (nI 31) rfl ?_
  refine uv_iand (z := nI r) O.1 dL_law_251 er ?_
  refine uv_bipush O.1 dL_law_252 (nI 24) rfl ?_
  refine uv_irem (z := nI (r % 24)) O.1 dL_law_254 (by decide +kernel) (y_rem.2.1 ⟨r, by omega⟩).2 ?_
  refine uv_iconst O.1 dL_law_255 (nI 2) rfl ?_
  rcases y_n24 ⟨r % 24, by omega⟩ with ⟨hn1, hn2, hn3⟩ | ⟨hn1, hn2, hn3⟩ | hn1
  · dsimp only at hn1 hn2 hn3
    generalize hx : nI (r % 24) - nI 2 = x at hn1 hn2 hn3
    refine uv_isub (z := x) O.1 dL_law_256 hx ?_
    refine uv_istore O.1 dL_law_257 (by omega) [(15, .int x), (14, .int (nI (m % 6))), (13, .ref qb), (12, .int (nI c12)), (11, .int pl), (10, .int (nI t)), (9, .int q), (8, .int (nI T)), (7, .ref al), (6, .ref as), (5, .ref am), (4, .int (nI words)), (3, .ref ak), (2, .int (nI 1)), (1, .ref (za Z 0)), (0, .ref b)] rfl ?_
    refine uv_iload_n O.1 dL_law_259 13 rfl rfl ?_
    refine uv_aload_n O.1 dL_law_260 14 rfl rfl ?_
    refine uv_iload O.1 dL_law_261 5 rfl ?_
    refine uv_iload O.1 dL_law_263 1 rfl ?_
    refine uv_iload O.1 dL_law_265 0 rfl ?_
    refine ue_ctV (as := [.int (nI t), .int (nI (m % 6)), .int x]) (rest := [.int (nI 1)]) O hfit dL_law_267 (fun Z2 hZ2 => ct_X11_tray hZ2 rfl (y_trayN ht (show m % 6 < 6 by omega) hn2 hn3)) vx_RL_78 rfl rfl rfl ⟨(Nat.le_of_ble_eq_true rfl), (Nat.le_of_ble_eq_true rfl)⟩ (Nat.le_of_ble_eq_true rfl) (by omega) (by omega) (fun _ hfit => ?_)
    show uE Z C σ [(ak, .inl (zc Z 1, (20, .inl kd))), (am, .inl (zc Z 1, (4, .inl md))), (as, .inl (zc Z 1, (4, .inl sz))), (al, .inl (zc Z 1, (80, .inl ld))), (qb, .inr (12, [.ref vb, .int (nI 0), .int (nI 0), .int (nI 0)])), (vb, .inl (zc Z 0, ((ySay g).length, .inl fb)))] _ _ _ [(15, .int x), (14, .int (nI (m % 6))), (13, .ref qb), (12, .int (nI c12)), (11, .int pl), (10, .int (nI t)), (9, .int q), (8, .int (nI T)), (7, .ref al), (6, .ref as), (5, .ref am), (4, .int (nI words)), (3, .ref ak), (2, .int (nI 1)), (1, .ref (za Z 0)), (0, .ref b)] [.int (-nI 14), .int (nI 1)]
    refine uv_iload O.1 dL_law_270 0 rfl ?_
    refine uv_bipush O.1 dL_law_272 (nI 20) rfl ?_
    refine uv_icmp_le 282 O.1 dL_law_274 rfl (fun _ => ?_) (fun hh => absurd hn2 hh)
    refine uv_iload O.1 dL_law_282 0 rfl ?_
    refine uv_if_ge 292 O.1 dL_law_284 rfl (fun hh => absurd hh hn3) (fun _ => ?_)
    refine uv_bipush O.1 dL_law_287 (-nI 14) rfl ?_
    refine uv_goto 293 O.1 dL_law_289 rfl ?_
    refine uv_icmp_ne 300 O.1 dL_law_293 rfl (fun hh => absurd rfl hh) (fun _ => ?_)
    refine uv_iconst O.1 dL_law_296 (nI 1) rfl ?_
    refine uv_goto 301 O.1 dL_law_297 rfl ?_
    refine uv_iand (z := nI 1) O.1 dL_law_301 (by decide +kernel) ?_
    refine uv_istore_n O.1 dL_law_302 rfl (by omega) [(2, .int (nI 1)), (15, .int x), (14, .int (nI (m % 6))), (13, .ref qb), (12, .int (nI c12)), (11, .int pl), (10, .int (nI t)), (9, .int q), (8, .int (nI T)), (7, .ref al), (6, .ref as), (5, .ref am), (4, .int (nI words)), (3, .ref ak), (1, .ref (za Z 0)), (0, .ref b)] rfl ?_
    refine uv_iload O.1 dL_law_303 1 rfl ?_
    refine uv_if_lt 357 O.1 dL_law_305 rfl (fun _ => ?_) (fun hh => absurd hn1 hh)
    refine uv_goto 1377 O.1 dL_law_357 rfl ?_
    refine uv_sub [3, 6, 8, 9, 10, 11, 12, 13, 0, 14, 15] rfl ?_
    refine uv_widen (k' := k0 + 24) (n' := n0 + 1576) (by omega) (by omega) ?_
    exact kk σ g kd md sz ld words hI rfl hfit
  · dsimp only at hn1 hn2 hn3
    generalize r % 24 - 2 = n at hn1 hn3
    refine uv_isub (z := nI n) O.1 dL_law_256 hn1 ?_
    refine uv_istore O.1 dL_law_257 (by omega) [(15, .int (nI n)), (14, .int (nI (m % 6))), (13, .ref qb), (12, .int (nI c12)), (11, .int pl), (10, .int (nI t)), (9, .int q), (8, .int (nI T)), (7, .ref al), (6, .ref as), (5, .ref am), (4, .int (nI words)), (3, .ref ak), (2, .int (nI 1)), (1, .ref (za Z 0)), (0, .ref b)] rfl ?_
    refine uv_iload_n O.1 dL_law_259 13 rfl rfl ?_
    refine uv_aload_n O.1 dL_law_260 14 rfl rfl ?_
    refine uv_iload O.1 dL_law_261 5 rfl ?_
    refine uv_iload O.1 dL_law_263 1 rfl ?_
    refine uv_iload O.1 dL_law_265 0 rfl ?_
    obtain ⟨τ, u1, u2, u3, u4, u5⟩ := y_tray (σ := σ) (n := n) (kd := m % 6) ht (by omega) hn3
    refine ue_ctV (as := [.int (nI t), .int (nI (m % 6)), .int (nI n)]) (rest := [.int (nI 1)]) O hfit dL_law_267 (fun Z2 hZ2 => ct_X11_tray hZ2 rfl u1) vx_RL_78 rfl rfl rfl ⟨(Nat.le_of_ble_eq_true rfl), (Nat.le_of_ble_eq_true rfl)⟩ (Nat.le_of_ble_eq_true rfl) (by omega) (by omega) (fun _ hfit => ?_)
    show uE Z C τ [(ak, .inl (zc Z 1, (20, .inl kd))), (am, .inl (zc Z 1, (4, .inl md))), (as, .inl (zc Z 1, (4, .inl sz))), (al, .inl (zc Z 1, (80, .inl ld))), (qb, .inr (12, [.ref vb, .int (nI 0), .int (nI 0), .int (nI 0)])), (vb, .inl (zc Z 0, ((ySay g).length, .inl fb)))] _ _ _ [(15, .int (nI n)), (14, .int (nI (m % 6))), (13, .ref qb), (12, .int (nI c12)), (11, .int pl), (10, .int (nI t)), (9, .int q), (8, .int (nI T)), (7, .ref al), (6, .ref as), (5, .ref am), (4, .int (nI words)), (3, .ref ak), (2, .int (nI 1)), (1, .ref (za Z 0)), (0, .ref b)] [.int (nI 1), .int (nI 1)]
    refine uv_iload O.1 dL_law_270 0 rfl ?_
    refine uv_bipush O.1 dL_law_272 (nI 20) rfl ?_
    refine uv_icmp_le 282 O.1 dL_law_274 rfl (fun _ => ?_) (fun hh => absurd (j_le hn3 (by omega)) hh)
    refine uv_iload O.1 dL_law_282 0 rfl ?_
    refine uv_if_ge 292 O.1 dL_law_284 rfl (fun _ => ?_) (fun hh => absurd (show (0 : Int32) ≤ nI n from nI_pos' (by omega)) hh)
    refine uv_iconst O.1 dL_law_292 (nI 1) rfl ?_
    refine uv_icmp_ne 300 O.1 dL_law_293 rfl (fun hh => absurd rfl hh) (fun _ => ?_)
    refine uv_iconst O.1 dL_law_296 (nI 1) rfl ?_
    refine uv_goto 301 O.1 dL_law_297 rfl ?_
    refine uv_iand (z := nI 1) O.1 dL_law_301 (by decide +kernel) ?_
    refine uv_istore_n O.1 dL_law_302 rfl (by omega) [(2, .int (nI 1)), (15, .int (nI n)), (14, .int (nI (m % 6))), (13, .ref qb), (12, .int (nI c12)), (11, .int pl), (10, .int (nI t)), (9, .int q), (8, .int (nI T)), (7, .ref al), (6, .ref as), (5, .ref am), (4, .int (nI words)), (3, .ref ak), (1, .ref (za Z 0)), (0, .ref b)] rfl ?_
    refine uv_iload O.1 dL_law_303 1 rfl ?_
    refine uv_if_lt 357 O.1 dL_law_305 rfl (fun hh => absurd hh (j_nn (by omega))) (fun _ => ?_)
    refine uv_iload O.1 dL_law_308 1 rfl ?_
    refine uv_bipush O.1 dL_law_310 (nI 20) rfl ?_
    refine uv_icmp_gt 357 O.1 dL_law_312 rfl (fun hh => absurd hh (j_nlt hn3 (by omega))) (fun _ => ?_)
    refine uv_aload O.1 dL_law_315 11 rfl ?_
    refine uv_iload O.1 dL_law_317 6 rfl ?_
    refine uv_iload O.1 dL_law_319 2 rfl ?_
    refine ue_ist (j := 1) (w := t) (E' := [(ak, .inl (zc Z 1, (20, .inl kd))), (am, .inl (zc Z 1, (4, .inl (upd md t (nI (m % 6)))))), (as, .inl (zc Z 1, (4, .inl sz))), (al, .inl (zc Z 1, (80, .inl ld))), (qb, .inr (12, [.ref vb, .int (nI 0), .int (nI 0), .int (nI 0)])), (vb, .inl (zc Z 0, ((ySay g).length, .inl fb)))]) O dL_law_321 rfl rfl ht (by omega) rfl ?_
    refine uv_aload O.1 dL_law_322 10 rfl ?_
    refine uv_iload O.1 dL_law_324 6 rfl ?_
    refine uv_iload O.1 dL_law_326 1 rfl ?_
    refine ue_ist (j := 2) (w := t) (E' := [(ak, .inl (zc Z 1, (20, .inl kd))), (am, .inl (zc Z 1, (4, .inl (upd md t (nI (m % 6)))))), (as, .inl (zc Z 1, (4, .inl (upd sz t (nI n))))), (al, .inl (zc Z 1, (80, .inl ld))), (qb, .inr (12, [.ref vb, .int (nI 0), .int (nI 0), .int (nI 0)])), (vb, .inl (zc Z 0, ((ySay g).length, .inl fb)))]) O dL_law_328 rfl rfl ht (by omega) rfl ?_
    refine uv_iconst O.1 dL_law_329 (nI 0) rfl ?_
    refine uv_istore O.1 dL_law_330 (by omega) [(16, .int (nI 0)), (2, .int (nI 1)), (15, .int (nI n)), (14, .int (nI (m % 6))), (13, .ref qb), (12, .int (nI c12)), (11, .int pl), (10, .int (nI t)), (9, .int q), (8, .int (nI T)), (7, .ref al), (6, .ref as), (5, .ref am), (4, .int (nI words)), (3, .ref ak), (1, .ref (za Z 0)), (0, .ref b)] rfl ?_
    have loop : ∀ (d i : Nat) (ld2 : Nat → Int32), i + d = n → (∀ k, k < i → ld2 (20 * t + k) = -nI 1) → (∀ k, ¬ (20 * t ≤ k ∧ k < 20 * t + i) → ld2 k = ld k) → uE Z C τ [(ak, .inl (zc Z 1, (20, .inl kd))), (am, .inl (zc Z 1, (4, .inl (upd md t (nI (m % 6)))))), (as, .inl (zc Z 1, (4, .inl (upd sz t (nI n))))), (al, .inl (zc Z 1, (80, .inl ld2))), (qb, .inr (12, [.ref vb, .int (nI 0), .int (nI 0), .int (nI 0)])), (vb, .inl (zc Z 0, ((ySay g).length, .inl fb)))] (k0) (n0) 332 [(16, .int (nI i)), (2, .int (nI 1)), (15, .int (nI n)), (14, .int (nI (m % 6))), (13, .ref qb), (12, .int (nI c12)), (11, .int pl), (10, .int (nI t)), (9, .int q), (8, .int (nI T)), (7, .ref al), (6, .ref as), (5, .ref am), (4, .int (nI words)), (3, .ref ak), (1, .ref (za Z 0)), (0, .ref b)] [] := by
      intro d
      induction d with
      | zero =>
        intro i ld2 hi l1 l2
        have : i = n := by omega
        subst this
        refine uv_iload O.1 dL_law_332 0 rfl ?_
        refine uv_iload O.1 dL_law_334 2 rfl ?_
        refine uv_icmp_ge 357 O.1 dL_law_336 rfl (fun _ => ?_) (fun hh => absurd (Int32.le_refl _) hh)
        refine uv_goto 1377 O.1 dL_law_357 rfl ?_
        refine uv_sub [4, 7, 9, 10, 11, 12, 13, 14, 1, 15, 16] rfl ?_
        refine uv_widen (k' := k0 + 24) (n' := n0 + 1576) (by omega) (by omega) ?_
        exact kk τ g kd _ _ ld2 words (yI_tr hI (fun x c p => u5 x c (by omega) (by omega)) (yT_tray (hI.2.2.2.2.2) ht (by omega) hn3 u2 u3 u4 u5 rfl rfl l1 l2)) rfl hfit
      | succ d ih =>
        intro i ld2 hi l1 l2
        refine uv_iload O.1 dL_law_332 0 rfl ?_
        refine uv_iload O.1 dL_law_334 2 rfl ?_
        refine uv_icmp_ge 357 O.1 dL_law_336 rfl (fun hh => absurd hh (j_nle (by omega) (by omega))) (fun _ => ?_)
        refine uv_aload O.1 dL_law_339 10 rfl ?_
        refine uv_bipush O.1 dL_law_341 (nI 20) rfl ?_
        refine uv_iload O.1 dL_law_343 7 rfl ?_
        refine uv_imul (z := nI (20 * t)) O.1 dL_law_345 (y_20t ⟨t, ht⟩) ?_
        refine uv_iload O.1 dL_law_346 0 rfl ?_
        refine uv_iaddE (z := nI (20 * t + i)) O.1 dL_law_348 (zI.1 _ _) ?_
        refine uv_iconst O.1 dL_law_349 (-nI 1) rfl ?_
        refine ue_ist (j := 3) (w := (20 * t + i)) (E' := [(ak, .inl (zc Z 1, (20, .inl kd))), (am, .inl (zc Z 1, (4, .inl (upd md t (nI (m % 6)))))), (as, .inl (zc Z 1, (4, .inl (upd sz t (nI n))))), (al, .inl (zc Z 1, (80, .inl (upd ld2 (20 * t + i) (-nI 1))))), (qb, .inr (12, [.ref vb, .int (nI 0), .int (nI 0), .int (nI 0)])), (vb, .inl (zc Z 0, ((ySay g).length, .inl fb)))]) O dL_law_350 rfl rfl (by omega) (by omega) rfl ?_
        refine uv_iinc (z := 1) (v := nI (i + 1)) O.1 dL_law_351 0 rfl (zI.1 _ _) (by omega) [(16, .int (nI (i + 1))), (2, .int (nI 1)), (15, .int (nI n)), (14, .int (nI (m % 6))), (13, .ref qb), (12, .int (nI c12)), (11, .int pl), (10, .int (nI t)), (9, .int q), (8, .int (nI T)), (7, .ref al), (6, .ref as), (5, .ref am), (4, .int (nI words)), (3, .ref ak), (1, .ref (za Z 0)), (0, .ref b)] rfl ?_
        refine uv_goto 332 O.1 dL_law_354 rfl ?_
        refine uv_sub [0, 1, 2, 3, 4, 5, 6, 7, 8, 9, 10, 11, 12, 13, 14, 15, 16] rfl ?_
        refine ih (i + 1) _ (by omega) (fun k hk => ?_) (fun k hk => ?_)
        · by_cases e : k = i
          · rw [e]; exact yu_eq
          · rw [yu_ne (by omega)]; exact l1 k (by omega)
        · rw [yu_ne (by omega)]; exact l2 k (by omega)
    refine uv_sub [0, 1, 2, 3, 4, 5, 6, 7, 8, 9, 10, 11, 12, 13, 14, 15, 16] rfl ?_
    exact loop n 0 ld (by omega) (fun k hk => absurd hk (by omega)) (fun _ _ => rfl)
  · dsimp only at hn1
    refine uv_isub (z := nI 21) O.1 dL_law_256 hn1 ?_
    refine uv_istore O.1 dL_law_257 (by omega) [(15, .int (nI 21)), (14, .int (nI (m % 6))), (13, .ref qb), (12, .int (nI c12)), (11, .int pl), (10, .int (nI t)), (9, .int q), (8, .int (nI T)), (7, .ref al), (6, .ref as), (5, .ref am), (4, .int (nI words)), (3, .ref ak), (2, .int (nI 1)), (1, .ref (za Z 0)), (0, .ref b)] rfl ?_
    refine uv_iload_n O.1 dL_law_259 13 rfl rfl ?_
    refine uv_aload_n O.1 dL_law_260 14 rfl rfl ?_
    refine uv_iload O.1 dL_law_261 5 rfl ?_
    refine uv_iload O.1 dL_law_263 1 rfl ?_
    refine uv_iload O.1 dL_law_265 0 rfl ?_
    refine ue_ctV (as := [.int (nI t), .int (nI (m % 6)), .int (nI 21)]) (rest := [.int (nI 1)]) O hfit dL_law_267 (fun Z2 hZ2 => ct_X11_tray hZ2 rfl (y_trayB ht (show m % 6 < 6 by omega) (by decide +kernel))) vx_RL_78 rfl rfl rfl ⟨(Nat.le_of_ble_eq_true rfl), (Nat.le_of_ble_eq_true rfl)⟩ (Nat.le_of_ble_eq_true rfl) (by omega) (by omega) (fun _ hfit => ?_)
    show uE Z C σ [(ak, .inl (zc Z 1, (20, .inl kd))), (am, .inl (zc Z 1, (4, .inl md))), (as, .inl (zc Z 1, (4, .inl sz))), (al, .inl (zc Z 1, (80, .inl ld))), (qb, .inr (12, [.ref vb, .int (nI 0), .int (nI 0), .int (nI 0)])), (vb, .inl (zc Z 0, ((ySay g).length, .inl fb)))] _ _ _ [(15, .int (nI 21)), (14, .int (nI (m % 6))), (13, .ref qb), (12, .int (nI c12)), (11, .int pl), (10, .int (nI t)), (9, .int q), (8, .int (nI T)), (7, .ref al), (6, .ref as), (5, .ref am), (4, .int (nI words)), (3, .ref ak), (2, .int (nI 1)), (1, .ref (za Z 0)), (0, .ref b)] [.int (-nI 2), .int (nI 1)]
    refine uv_iload O.1 dL_law_270 0 rfl ?_
    refine uv_bipush O.1 dL_law_272 (nI 20) rfl ?_
    refine uv_icmp_le 282 O.1 dL_law_274 rfl (fun hh => absurd hh (by decide +kernel)) (fun _ => ?_)
    refine uv_bipush O.1 dL_law_277 (-nI 2) rfl ?_
    refine uv_goto 293 O.1 dL_law_279 rfl ?_
    refine uv_icmp_ne 300 O.1 dL_law_293 rfl (fun hh => absurd rfl hh) (fun _ => ?_)
    refine uv_iconst O.1 dL_law_296 (nI 1) rfl ?_
    refine uv_goto 301 O.1 dL_law_297 rfl ?_
    refine uv_iand (z := nI 1) O.1 dL_law_301 (by decide +kernel) ?_
    refine uv_istore_n O.1 dL_law_302 rfl (by omega) [(2, .int (nI 1)), (15, .int (nI 21)), (14, .int (nI (m % 6))), (13, .ref qb), (12, .int (nI c12)), (11, .int pl), (10, .int (nI t)), (9, .int q), (8, .int (nI T)), (7, .ref al), (6, .ref as), (5, .ref am), (4, .int (nI words)), (3, .ref ak), (1, .ref (za Z 0)), (0, .ref b)] rfl ?_
    refine uv_iload O.1 dL_law_303 1 rfl ?_
    refine uv_if_lt 357 O.1 dL_law_305 rfl (fun hh => absurd hh (by decide +kernel)) (fun _ => ?_)
    refine uv_iload O.1 dL_law_308 1 rfl ?_
    refine uv_bipush O.1 dL_law_310 (nI 20) rfl ?_
    refine uv_icmp_gt 357 O.1 dL_law_312 rfl (fun _ => ?_) (fun hh => absurd (by decide +kernel) hh)
    refine uv_goto 1377 O.1 dL_law_357 rfl ?_
    refine uv_sub [3, 6, 8, 9, 10, 11, 12, 13, 0, 14, 15] rfl ?_
    refine uv_widen (k' := k0 + 24) (n' := n0 + 1576) (by omega) (by omega) ?_
    exact kk σ g kd md sz ld words hI rfl hfit
