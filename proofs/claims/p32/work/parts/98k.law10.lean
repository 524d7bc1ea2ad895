set_option maxHeartbeats 4000000 in
theorem w_turn {Z : ZT} {C : CX} {b N k25 v25 k34 v34 : Nat} {xs ef : Nat → Int32} (O : jOk Z C RL cL_law 19 13 494 600000 7302249) (hXs : jXs b N xs (c_A C) (c_s C) (c_s C).heap) (hN : N ≤ 600) (h25 : jK 25 "" k25 v25 0 ef (c_A C) (c_s C) (c_s C).heap) (hef : jF ef) (h34 : jK 34 "aeobtkle" k34 v34 8 (fun k => zsg (yal.getD k 0)) (c_A C) (c_s C) (c_s C).heap) {k112 v112 k117 v117 k119 v119 : Nat} (h112 : jK 112 "o" k112 v112 1 (fun k => zsg (yco.getD k 0)) (c_A C) (c_s C) (c_s C).heap) (h117 : jK 117 "ka" k117 v117 2 (fun k => zsg (yck.getD k 0)) (c_A C) (c_s C) (c_s C).heap) (h119 : jK 119 "a a" k119 v119 3 (fun k => zsg (ycx.getD k 0)) (c_A C) (c_s C) (c_s C).heap) {k0 n0 T words al as am ak : Nat} {σ : Mem} {g kd md sz ld : Nat → Int32} (hk0 : k0 ≤ 200000) (hn0 : n0 ≤ 2000000) (hI : yI σ g kd md sz ld words) (hfit : hFit σ) (hT : T < 24) (kk : ∀ (τ2 : Mem) (g2 kd2 md2 sz2 ld2 : Nat → Int32) (w2 : Nat), yI τ2 g2 kd2 md2 sz2 ld2 w2 → hFit τ2 → uE Z C τ2 [(ak, .inl (zc Z 1, (20, .inl kd2))), (am, .inl (zc Z 1, (4, .inl md2))), (as, .inl (zc Z 1, (4, .inl sz2))), (al, .inl (zc Z 1, (80, .inl ld2)))] ((k0 + 264) + 24 + 264) ((n0 + 17336) + 1576 + 17336) 173 [(8, .int (nI (T + 1))), (7, .ref al), (6, .ref as), (5, .ref am), (4, .int (nI w2)), (3, .ref ak), (2, .int (nI 1)), (1, .ref (za Z 0)), (0, .ref b)] []) : uE Z C σ [(ak, .inl (zc Z 1, (20, .inl kd))), (am, .inl (zc Z 1, (4, .inl md))), (as, .inl (zc Z 1, (4, .inl sz))), (al, .inl (zc Z 1, (80, .inl ld)))] k0 n0 173 [(8, .int (nI T)), (7, .ref al), (6, .ref as), (5, .ref am), (4, .int (nI words)), (3, .ref ak), (2, .int (nI 1)), (1, .ref (za Z 0)), (0, .ref b)] [] := by
  have hB := hI.1; have hG := hI.2.1; have hz := hI.2.2.1; have hW : znW g = words := hI.2.2.2.1; have h6 : 6 ≤ words := (hW ▸ hG.2.2.2.2.2.2.2 : 6 ≤ words); have h20 : words ≤ 20 := (hW ▸ hB.1.1.2 : words ≤ 20)
  show uE Z C σ [(ak, .inl (zc Z 1, (20, .inl kd))), (am, .inl (zc Z 1, (4, .inl md))), (as, .inl (zc Z 1, (4, .inl sz))), (al, .inl (zc Z 1, (80, .inl ld)))] _ _ _ [(8, .int (nI T)), (7, .ref al), (6, .ref as), (5, .ref am), (4, .int (nI words)), (3, .ref ak), (2, .int (nI 1)), (1, .ref (za Z 0)), (0, .ref b)] []
  refine uv_iload O.1 dL_law_173 0 rfl ?_
  refine uv_bipush O.1 dL_law_175 (nI 24) rfl ?_
  refine uv_icmp_ge 1543 O.1 dL_law_177 rfl (fun hh => absurd hh (j_nle (by omega) (by omega))) (fun _ => ?_)
  refine uv_aload_n O.1 dL_law_180 8 rfl rfl ?_
  refine uv_bipush O.1 dL_law_181 (nI 6) rfl ?_
  refine uv_iload O.1 dL_law_183 0 rfl ?_
  refine uv_iaddE (z := nI (6 + T)) O.1 dL_law_185 (zI.1 _ _) ?_
  refine ue_call (E1 := [(ak, .inl (zc Z 1, (20, .inl kd))), (am, .inl (zc Z 1, (4, .inl md))), (as, .inl (zc Z 1, (4, .inl sz))), (al, .inl (zc Z 1, (80, .inl ld)))]) (wc := []) (rest := []) O (jc_S (as := [.ref b, .int (nI (6 + T))]) (rest := []) O.1 dL_law_186 (uq_in (by decide +kernel) (by decide +kernel)) (uq_in (by decide +kernel) (by decide +kernel)) (uq_in (by decide +kernel) (by decide +kernel)) (uq_in (by decide +kernel) (by decide +kernel)) ⟨by decide +kernel, by decide +kernel, (by decide +kernel : (parseMethodDescriptor yL_cell.desc).map (fun d => d.parameters.length) = some 2)⟩ rfl ⟨(Nat.le_of_ble_eq_true rfl), (Nat.le_of_ble_eq_true rfl)⟩ (Nat.le_of_ble_eq_true rfl)) (fun sz => l_cell Z b N (6 + T) xs sz hN (by omega)) (jXs_mv _ _ _) (jt_up O.1 (jXs_mv _ _ _) hXs) j_r0 rfl (by omega) (by omega) (fun q hu => ?_)
  show uE Z C σ [(ak, .inl (zc Z 1, (20, .inl kd))), (am, .inl (zc Z 1, (4, .inl md))), (as, .inl (zc Z 1, (4, .inl sz))), (al, .inl (zc Z 1, (80, .inl ld)))] _ _ _ [(8, .int (nI T)), (7, .ref al), (6, .ref as), (5, .ref am), (4, .int (nI words)), (3, .ref ak), (2, .int (nI 1)), (1, .ref (za Z 0)), (0, .ref b)] [.int q]
  refine uv_istore O.1 dL_law_189 (by omega) [(9, .int q), (8, .int (nI T)), (7, .ref al), (6, .ref as), (5, .ref am), (4, .int (nI words)), (3, .ref ak), (2, .int (nI 1)), (1, .ref (za Z 0)), (0, .ref b)] rfl ?_
  refine uv_iload O.1 dL_law_191 0 rfl ?_
  refine uv_iconst O.1 dL_law_193 (nI 3) rfl ?_
  refine uv_ishr (z := (q >>> ((nI 3) &&& 31))) O.1 dL_law_194 rfl ?_
  obtain ⟨t, ht, et⟩ : ∃ t, t ≤ 3 ∧ (q >>> (nI 3 &&& 31)) &&& nI 3 = nI t := ⟨_, (y_and _ 3 (by omega)).2, (y_and _ 3 (by omega)).1⟩
  refine uv_iconst O.1 dL_law_195 (nI 3) rfl ?_
  refine uv_iand (z := nI t) O.1 dL_law_196 et ?_
  refine uv_istore O.1 dL_law_197 (by omega) [(10, .int (nI t)), (9, .int q), (8, .int (nI T)), (7, .ref al), (6, .ref as), (5, .ref am), (4, .int (nI words)), (3, .ref ak), (2, .int (nI 1)), (1, .ref (za Z 0)), (0, .ref b)] rfl ?_
  refine uv_iload O.1 dL_law_199 1 rfl ?_
  refine uv_iconst O.1 dL_law_201 (nI 5) rfl ?_
  refine uv_ishr (z := (q >>> ((nI 5) &&& 31))) O.1 dL_law_202 rfl ?_
  obtain ⟨m, hm, em⟩ : ∃ m, m ≤ 31 ∧ (q >>> (nI 5 &&& 31)) &&& nI 31 = nI m := ⟨_, (y_and _ 31 (by omega)).2, (y_and _ 31 (by omega)).1⟩
  refine uv_bipush O.1 dL_law_203 (nI 31) rfl ?_
  refine uv_iand (z := nI m) O.1 dL_law_205 em ?_
  refine uv_bipush O.1 dL_law_206 (nI 22) rfl ?_
  refine uv_irem (z := nI (m % 22)) O.1 dL_law_208 (by decide +kernel) (y_rem.2.1 ⟨m, by omega⟩).1 ?_
  refine uv_iconst O.1 dL_law_209 (nI 1) rfl ?_
  obtain ⟨pl, hpl⟩ : ∃ pl, nI (m % 22) - nI 1 = pl := ⟨_, rfl⟩
  refine uv_isub (z := pl) O.1 dL_law_210 hpl ?_
  refine uv_istore O.1 dL_law_211 (by omega) [(11, .int pl), (10, .int (nI t)), (9, .int q), (8, .int (nI T)), (7, .ref al), (6, .ref as), (5, .ref am), (4, .int (nI words)), (3, .ref ak), (2, .int (nI 1)), (1, .ref (za Z 0)), (0, .ref b)] rfl ?_
  refine uv_iload O.1 dL_law_213 2 rfl ?_
  obtain ⟨c12, hc12, ec12⟩ : ∃ k, k ≤ 7 ∧ q &&& nI 7 = nI k := ⟨_, (y_and _ 7 (by omega)).2, (y_and _ 7 (by omega)).1⟩
  refine uv_bipush O.1 dL_law_215 (nI 7) rfl ?_
  refine uv_iand (z := nI c12) O.1 dL_law_217 ec12 ?_
  refine uv_istore O.1 dL_law_218 (by omega) [(12, .int (nI c12)), (11, .int pl), (10, .int (nI t)), (9, .int q), (8, .int (nI T)), (7, .ref al), (6, .ref as), (5, .ref am), (4, .int (nI words)), (3, .ref ak), (2, .int (nI 1)), (1, .ref (za Z 0)), (0, .ref b)] rfl ?_
  refine uv_aload_n O.1 dL_law_220 11 rfl rfl ?_
  refine ue_callB (rest := []) O (jc_S (as := [.ref (za Z 0)]) (rest := []) O.1 dL_law_221 (uq_in (by decide +kernel) (by decide +kernel)) (uq_in (by decide +kernel) (by decide +kernel)) (uq_in (by decide +kernel) (by decide +kernel)) (uq_in (by decide +kernel) (by decide +kernel)) ⟨by decide +kernel, by decide +kernel, (by decide +kernel : (parseMethodDescriptor yL_said.desc).map (fun d => d.parameters.length) = some 1)⟩ rfl ⟨(Nat.le_of_ble_eq_true rfl), (Nat.le_of_ble_eq_true rfl)⟩ (Nat.le_of_ble_eq_true rfl)) (fun sz => l_said Z k25 v25 ef σ g sz hB hG hfit hef) (jK_mv _ _ _ _ _ _) (jt_up O.1 (jK_mv _ _ _ _ _ _) h25) j_r0 (by omega) (by omega) (fun u => u.1) (fun u => [(u.2.1, .inr (12, [.ref u.2.2.1, .int (nI 0), .int (nI 0), .int (nI 0)])), (u.2.2.1, .inl (zc Z 0, ((ySay g).length, .inl u.2.2.2)))]) (fun u => rfl) (fun u hu => ?_)
  obtain ⟨τ, qb, vb, fb⟩ := u
  try dsimp only at hu
  obtain ⟨hSb, hfit, hqb, hFb⟩ := hu
  show uE Z C τ [(ak, .inl (zc Z 1, (20, .inl kd))), (am, .inl (zc Z 1, (4, .inl md))), (as, .inl (zc Z 1, (4, .inl sz))), (al, .inl (zc Z 1, (80, .inl ld))), (qb, .inr (12, [.ref vb, .int (nI 0), .int (nI 0), .int (nI 0)])), (vb, .inl (zc Z 0, ((ySay g).length, .inl fb)))] _ _ _ [(12, .int (nI c12)), (11, .int pl), (10, .int (nI t)), (9, .int q), (8, .int (nI T)), (7, .ref al), (6, .ref as), (5, .ref am), (4, .int (nI words)), (3, .ref ak), (2, .int (nI 1)), (1, .ref (za Z 0)), (0, .ref b)] [.ref qb]
  refine uv_astore O.1 dL_law_224 (by omega) [(13, .ref qb), (12, .int (nI c12)), (11, .int pl), (10, .int (nI t)), (9, .int q), (8, .int (nI T)), (7, .ref al), (6, .ref as), (5, .ref am), (4, .int (nI words)), (3, .ref ak), (2, .int (nI 1)), (1, .ref (za Z 0)), (0, .ref b)] rfl ?_
  have hI2 : yI τ g kd md sz ld words := yI_co hI (fun x c p q => hSb x c (by omega))
  have ht4 : t < 4 := by omega
  have hk1 : k0 + 264 ≤ 300000 := by omega
  have hn1 : n0 + 17336 ≤ 3000000 := by omega
  have kj : ∀ (σ2 : Mem) (g2 kd2 md2 sz2 ld2 : Nat → Int32) (w2 : Nat), yI σ2 g2 kd2 md2 sz2 ld2 w2 → ySay g2 = ySay g → hFit σ2 → uE Z C σ2 [(ak, .inl (zc Z 1, (20, .inl kd2))), (am, .inl (zc Z 1, (4, .inl md2))), (as, .inl (zc Z 1, (4, .inl sz2))), (al, .inl (zc Z 1, (80, .inl ld2))), (qb, .inr (12, [.ref vb, .int (nI 0), .int (nI 0), .int (nI 0)])), (vb, .inl (zc Z 0, ((ySay g).length, .inl fb)))] ((k0 + 264) + 24) ((n0 + 17336) + 1576) 1377 [(13, .ref qb), (10, .int (nI t)), (8, .int (nI T)), (7, .ref al), (6, .ref as), (5, .ref am), (4, .int (nI w2)), (3, .ref ak), (2, .int (nI 1)), (1, .ref (za Z 0)), (0, .ref b)] [] := by
    intro σ2 g2 kd2 md2 sz2 ld2 w2 i1 i2 i3
    rw [← i2] at hqb ⊢
    refine w_after (c12 := c12) (pl := pl) (q := q) O hXs hN h25 hef h34 (by omega) (by omega) i1 i3 ht4 hqb (fun τ2 j1 j2 => ?_)
    exact kk τ2 g2 kd2 md2 sz2 ld2 w2 j1 j2
  refine uv_sub [0, 1, 2, 3, 4, 5, 6, 7, 8, 9, 10, 11, 12, 13] rfl ?_
  have J835 : uE Z C τ [(ak, .inl (zc Z 1, (20, .inl kd))), (am, .inl (zc Z 1, (4, .inl md))), (as, .inl (zc Z 1, (4, .inl sz))), (al, .inl (zc Z 1, (80, .inl ld))), (qb, .inr (12, [.ref vb, .int (nI 0), .int (nI 0), .int (nI 0)])), (vb, .inl (zc Z 0, ((ySay g).length, .inl fb)))] (k0 + 264) (n0 + 17336) 835 [(13, .ref qb), (12, .int (nI c12)), (11, .int pl), (10, .int (nI t)), (9, .int q), (8, .int (nI T)), (7, .ref al), (6, .ref as), (5, .ref am), (4, .int (nI words)), (3, .ref ak), (2, .int (nI 1)), (1, .ref (za Z 0)), (0, .ref b)] [] := by
    by_cases h6 : c12 = 6
    · subst h6
      refine uv_iload O.1 dL_law_835 1 rfl ?_
      refine uv_bipush O.1 dL_law_837 (nI 6) rfl ?_
      refine uv_icmp_ne 1208 O.1 dL_law_839 rfl (fun hh => absurd rfl hh) (fun _ => ?_)
      exact w_sheet O hXs hN h25 hef h34 hk1 hn1 hI2 hfit ht4 hqb kj
    · refine uv_iload O.1 dL_law_835 1 rfl ?_
      refine uv_bipush O.1 dL_law_837 (nI 6) rfl ?_
      refine uv_icmp_ne 1208 O.1 dL_law_839 rfl (fun _ => ?_) (fun hh => absurd hh (j_ne h6 (by omega) (by omega)))
      exact w_image O hXs hN h25 hef h34 hk1 hn1 hI2 hfit ht4 h112 h117 h119 kj
  refine uv_iload O.1 dL_law_226 1 rfl ?_
  by_cases h0 : c12 = 0
  · subst h0
    refine uv_neF 360 O.1 dL_law_228 rfl rfl ?_
    exact w_tray O hXs hN h25 hef h34 hk1 hn1 hI2 hfit ht4 kj
  · refine uv_neT 360 O.1 dL_law_228 rfl (show ¬ nI c12 = nI 0 from j_ne h0 (by omega) (by omega)) ?_
    refine uv_iload O.1 dL_law_360 1 rfl ?_
    refine uv_iconst O.1 dL_law_362 (nI 4) rfl ?_
    refine uv_icmp_ge 636 O.1 dL_law_363 rfl (fun h4 => ?_) (fun h4 => ?_)
    · refine uv_iload O.1 dL_law_636 1 rfl ?_
      refine uv_iconst O.1 dL_law_638 (nI 4) rfl ?_
      by_cases h5 : c12 = 4
      · subst h5
        refine uv_icmp_ne 760 O.1 dL_law_639 rfl (fun hh => absurd rfl hh) (fun _ => ?_)
        exact w_like O hXs hN h25 hef h34 hk1 hn1 hI2 hfit ht4 kj
      · refine uv_icmp_ne 760 O.1 dL_law_639 rfl (fun _ => ?_) (fun hh => absurd hh (j_ne h5 (by omega) (by omega)))
        refine uv_iload O.1 dL_law_760 1 rfl ?_
        refine uv_iconst O.1 dL_law_762 (nI 5) rfl ?_
        by_cases h7 : c12 = 5
        · subst h7
          refine uv_icmp_ne 835 O.1 dL_law_763 rfl (fun hh => absurd rfl hh) (fun _ => ?_)
          refine uv_iload O.1 dL_law_766 9 rfl ?_
          refine uv_bipush O.1 dL_law_768 (nI 20) rfl ?_
          refine uv_icmp_ge 835 O.1 dL_law_770 rfl (fun h8 => ?_) (fun h8 => ?_)
          · exact J835
          · exact w_word O hXs hN h25 hef h34 hk1 hn1 hI2 hfit ht4 (by simp (disch := omega) only [zC] at h8; omega) kj
        · refine uv_icmp_ne 835 O.1 dL_law_763 rfl (fun _ => ?_) (fun hh => absurd hh (j_ne h7 (by omega) (by omega)))
          exact J835
    · exact w_lays O hXs hN h25 hef h34 hk1 hn1 hI2 hfit ht4 kj
theorem w_turns {Z : ZT} {C : CX} {b N k25 v25 k34 v34 : Nat} {xs ef : Nat → Int32} (O : jOk Z C RL cL_law 19 13 494 600000 7302249) (hXs : jXs b N xs (c_A C) (c_s C) (c_s C).heap) (hN : N ≤ 600) (h25 : jK 25 "" k25 v25 0 ef (c_A C) (c_s C) (c_s C).heap) (hef : jF ef) (h34 : jK 34 "aeobtkle" k34 v34 8 (fun k => zsg (yal.getD k 0)) (c_A C) (c_s C) (c_s C).heap) {k112 v112 k117 v117 k119 v119 : Nat} (h112 : jK 112 "o" k112 v112 1 (fun k => zsg (yco.getD k 0)) (c_A C) (c_s C) (c_s C).heap) (h117 : jK 117 "ka" k117 v117 2 (fun k => zsg (yck.getD k 0)) (c_A C) (c_s C) (c_s C).heap) (h119 : jK 119 "a a" k119 v119 3 (fun k => zsg (ycx.getD k 0)) (c_A C) (c_s C) (c_s C).heap) {al as am ak : Nat} (kk : ∀ (σ : Mem) (g kd md sz ld : Nat → Int32) (words : Nat), yI σ g kd md sz ld words → hFit σ → uE Z C σ [(ak, .inl (zc Z 1, (20, .inl kd))), (am, .inl (zc Z 1, (4, .inl md))), (as, .inl (zc Z 1, (4, .inl sz))), (al, .inl (zc Z 1, (80, .inl ld)))] (10000 + 552 * 24) (100000 + 36248 * 24) 1543 [(8, .int (nI 24)), (7, .ref al), (6, .ref as), (5, .ref am), (4, .int (nI words)), (3, .ref ak), (2, .int (nI 1)), (1, .ref (za Z 0)), (0, .ref b)] []) : ∀ (d T : Nat) (σ : Mem) (g kd md sz ld : Nat → Int32) (words : Nat), T + d = 24 → yI σ g kd md sz ld words → hFit σ → uE Z C σ [(ak, .inl (zc Z 1, (20, .inl kd))), (am, .inl (zc Z 1, (4, .inl md))), (as, .inl (zc Z 1, (4, .inl sz))), (al, .inl (zc Z 1, (80, .inl ld)))] (10000 + 552 * T) (100000 + 36248 * T) 173 [(8, .int (nI T)), (7, .ref al), (6, .ref as), (5, .ref am), (4, .int (nI words)), (3, .ref ak), (2, .int (nI 1)), (1, .ref (za Z 0)), (0, .ref b)] [] := by
  intro d
  induction d with
  | zero =>
    intro T σ g kd md sz ld words hT hI hfit
    have : T = 24 := by omega
    subst this
    refine uv_iload O.1 dL_law_173 0 rfl ?_
    refine uv_bipush O.1 dL_law_175 (nI 24) rfl ?_
    refine uv_icmp_ge 1543 O.1 dL_law_177 rfl (fun _ => kk σ g kd md sz ld words hI hfit) (fun hh => absurd (Int32.le_refl _) hh)
  | succ d ih =>
    intro T σ g kd md sz ld words hT hI hfit
    refine w_turn O hXs hN h25 hef h34 h112 h117 h119 (by omega) (by omega) hI hfit (by omega) (fun τ2 g2 kd2 md2 sz2 ld2 w2 h1 h2 => ?_)
    refine uv_widen (k' := 10000 + 552 * (T + 1)) (n' := 100000 + 36248 * (T + 1)) (by omega) (by omega) ?_
    exact ih (T + 1) τ2 g2 kd2 md2 sz2 ld2 w2 (by omega) h1 h2

set_option maxHeartbeats 4000000 in
theorem w_end {Z : ZT} {C : CX} {b N k25 v25 k34 v34 : Nat} {xs ef : Nat → Int32} (O : jOk Z C RL cL_law 19 13 494 600000 7302249) (hXs : jXs b N xs (c_A C) (c_s C) (c_s C).heap) (hN : N ≤ 600) (h25 : jK 25 "" k25 v25 0 ef (c_A C) (c_s C) (c_s C).heap) (hef : jF ef) (h34 : jK 34 "aeobtkle" k34 v34 8 (fun k => zsg (yal.getD k 0)) (c_A C) (c_s C) (c_s C).heap) {words al as am ak : Nat} {σ : Mem} {g kd md sz ld : Nat → Int32} (hI : yI σ g kd md sz ld words) (hfit : hFit σ) (kk : uE Z C σ [(ak, .inl (zc Z 1, (20, .inl kd))), (am, .inl (zc Z 1, (4, .inl md))), (as, .inl (zc Z 1, (4, .inl sz))), (al, .inl (zc Z 1, (80, .inl ld)))] 600000 7302249 1701 [(8, .int (nI 24)), (7, .ref al), (6, .ref as), (5, .ref am), (4, .int (nI words)), (3, .ref ak), (2, .int (nI 1)), (1, .ref (za Z 0)), (0, .ref b)] [.int (nI 1)]) : uE Z C σ [(ak, .inl (zc Z 1, (20, .inl kd))), (am, .inl (zc Z 1, (4, .inl md))), (as, .inl (zc Z 1, (4, .inl sz))), (al, .inl (zc Z 1, (80, .inl ld)))] (10000 + 552 * 24) (100000 + 36248 * 24) 1543 [(8, .int (nI 24)), (7, .ref al), (6, .ref as), (5, .ref am), (4, .int (nI words)), (3, .ref ak), (2, .int (nI 1)), (1, .ref (za Z 0)), (0, .ref b)] [] := by
  have hB := hI.1; have hG := hI.2.1; have hz := hI.2.2.1; have hW : znW g = words := hI.2.2.2.1; have h6 : 6 ≤ words := (hW ▸ hG.2.2.2.2.2.2.2 : 6 ≤ words); have h20 : words ≤ 20 := (hW ▸ hB.1.1.2 : words ≤ 20)
  show uE Z C σ [(ak, .inl (zc Z 1, (20, .inl kd))), (am, .inl (zc Z 1, (4, .inl md))), (as, .inl (zc Z 1, (4, .inl sz))), (al, .inl (zc Z 1, (80, .inl ld)))] _ _ _ [(8, .int (nI 24)), (7, .ref al), (6, .ref as), (5, .ref am), (4, .int (nI words)), (3, .ref ak), (2, .int (nI 1)), (1, .ref (za Z 0)), (0, .ref b)] []
  refine uv_aload_n O.1 dL_law_1543 7 rfl rfl ?_
  refine uv_iconst O.1 dL_law_1544 (nI 4) rfl ?_
  refine uv_iconst O.1 dL_law_1545 (nI 0) rfl ?_
  refine ue_ctV (as := [.int (nI 4), .int (nI 0)]) (rest := []) O hfit dL_law_1546 (fun Z2 hZ2 => ct_X11_laid hZ2 rfl y_laid4) vx_RL_130 rfl rfl rfl ⟨(Nat.le_of_ble_eq_true rfl), (Nat.le_of_ble_eq_true rfl)⟩ (Nat.le_of_ble_eq_true rfl) (by omega) (by omega) (fun _ hfit => ?_)
  show uE Z C σ [(ak, .inl (zc Z 1, (20, .inl kd))), (am, .inl (zc Z 1, (4, .inl md))), (as, .inl (zc Z 1, (4, .inl sz))), (al, .inl (zc Z 1, (80, .inl ld)))] _ _ _ [(8, .int (nI 24)), (7, .ref al), (6, .ref as), (5, .ref am), (4, .int (nI words)), (3, .ref ak), (2, .int (nI 1)), (1, .ref (za Z 0)), (0, .ref b)] [.int (-nI 2)]
  refine uv_bipush O.1 dL_law_1549 (-nI 2) rfl ?_
  refine uv_icmp_ne 1700 O.1 dL_law_1551 rfl (fun hh => absurd rfl hh) (fun _ => ?_)
  refine uv_aload_n O.1 dL_law_1554 7 rfl rfl ?_
  refine uv_iconst O.1 dL_law_1555 (nI 0) rfl ?_
  refine uv_bipush O.1 dL_law_1556 (nI 6) rfl ?_
  refine uv_iconst O.1 dL_law_1558 (nI 1) rfl ?_
  refine ue_ctV (as := [.int (nI 0), .int (nI 6), .int (nI 1)]) (rest := []) O hfit dL_law_1559 (fun Z2 hZ2 => ct_X11_tray hZ2 rfl y_tray6) vx_RL_78 rfl rfl rfl ⟨(Nat.le_of_ble_eq_true rfl), (Nat.le_of_ble_eq_true rfl)⟩ (Nat.le_of_ble_eq_true rfl) (by omega) (by omega) (fun _ hfit => ?_)
  show uE Z C σ [(ak, .inl (zc Z 1, (20, .inl kd))), (am, .inl (zc Z 1, (4, .inl md))), (as, .inl (zc Z 1, (4, .inl sz))), (al, .inl (zc Z 1, (80, .inl ld)))] _ _ _ [(8, .int (nI 24)), (7, .ref al), (6, .ref as), (5, .ref am), (4, .int (nI words)), (3, .ref ak), (2, .int (nI 1)), (1, .ref (za Z 0)), (0, .ref b)] [.int (-nI 2)]
  refine uv_bipush O.1 dL_law_1562 (-nI 2) rfl ?_
  refine uv_icmp_ne 1700 O.1 dL_law_1564 rfl (fun hh => absurd rfl hh) (fun _ => ?_)
  have hl := y_laysN (p2 := nI 0) hB
  rw [hW] at hl
  refine uv_aload_n O.1 dL_law_1567 7 rfl rfl ?_
  refine uv_iconst O.1 dL_law_1568 (nI 0) rfl ?_
  refine uv_iconst O.1 dL_law_1569 (nI 0) rfl ?_
  refine uv_iload O.1 dL_law_1570 4 rfl ?_
  refine ue_ctV (as := [.int (nI 0), .int (nI 0), .int (nI words)]) (rest := []) O hfit dL_law_1572 (fun Z2 hZ2 => ct_X11_lays hZ2 rfl hl) vx_RL_81 rfl rfl rfl ⟨(Nat.le_of_ble_eq_true rfl), (Nat.le_of_ble_eq_true rfl)⟩ (Nat.le_of_ble_eq_true rfl) (by omega) (by omega) (fun _ hfit => ?_)
  show uE Z C σ [(ak, .inl (zc Z 1, (20, .inl kd))), (am, .inl (zc Z 1, (4, .inl md))), (as, .inl (zc Z 1, (4, .inl sz))), (al, .inl (zc Z 1, (80, .inl ld)))] _ _ _ [(8, .int (nI 24)), (7, .ref al), (6, .ref as), (5, .ref am), (4, .int (nI words)), (3, .ref ak), (2, .int (nI 1)), (1, .ref (za Z 0)), (0, .ref b)] [.int (-nI 2)]
  refine uv_bipush O.1 dL_law_1575 (-nI 2) rfl ?_
  refine uv_icmp_ne 1700 O.1 dL_law_1577 rfl (fun hh => absurd rfl hh) (fun _ => ?_)
  refine uv_aload_n O.1 dL_law_1580 7 rfl rfl ?_
  refine uv_iconst O.1 dL_law_1581 (nI 0) rfl ?_
  refine uv_iconst O.1 dL_law_1582 (nI 4) rfl ?_
  refine ue_ctV (as := [.int (nI 0), .int (nI 4)]) (rest := []) O hfit dL_law_1583 (fun Z2 hZ2 => ct_X11_like hZ2 rfl y_like4) vx_RL_93 rfl rfl rfl ⟨(Nat.le_of_ble_eq_true rfl), (Nat.le_of_ble_eq_true rfl)⟩ (Nat.le_of_ble_eq_true rfl) (by omega) (by omega) (fun _ hfit => ?_)
  show uE Z C σ [(ak, .inl (zc Z 1, (20, .inl kd))), (am, .inl (zc Z 1, (4, .inl md))), (as, .inl (zc Z 1, (4, .inl sz))), (al, .inl (zc Z 1, (80, .inl ld)))] _ _ _ [(8, .int (nI 24)), (7, .ref al), (6, .ref as), (5, .ref am), (4, .int (nI words)), (3, .ref ak), (2, .int (nI 1)), (1, .ref (za Z 0)), (0, .ref b)] [.int (-nI 2)]
  refine uv_bipush O.1 dL_law_1586 (-nI 2) rfl ?_
  refine uv_icmp_ne 1700 O.1 dL_law_1588 rfl (fun hh => absurd rfl hh) (fun _ => ?_)
  refine uv_aload_n O.1 dL_law_1591 7 rfl rfl ?_
  refine uv_iconst O.1 dL_law_1592 (nI 0) rfl ?_
  refine uv_iconst O.1 dL_law_1593 (nI 2) rfl ?_
  refine uv_iconst O.1 dL_law_1594 (nI 1) rfl ?_
  refine ue_ctV (as := [.int (nI 0), .int (nI 2), .int (nI 1)]) (rest := []) O hfit dL_law_1595 (fun Z2 hZ2 => ct_X11_sheet hZ2 rfl y_sheetE.1) vx_RL_96 rfl rfl rfl ⟨(Nat.le_of_ble_eq_true rfl), (Nat.le_of_ble_eq_true rfl)⟩ (Nat.le_of_ble_eq_true rfl) (by omega) (by omega) (fun _ hfit => ?_)
  show uE Z C σ [(ak, .inl (zc Z 1, (20, .inl kd))), (am, .inl (zc Z 1, (4, .inl md))), (as, .inl (zc Z 1, (4, .inl sz))), (al, .inl (zc Z 1, (80, .inl ld)))] _ _ _ [(8, .int (nI 24)), (7, .ref al), (6, .ref as), (5, .ref am), (4, .int (nI words)), (3, .ref ak), (2, .int (nI 1)), (1, .ref (za Z 0)), (0, .ref b)] [.int (-nI 2)]
  refine uv_bipush O.1 dL_law_1598 (-nI 2) rfl ?_
  refine uv_icmp_ne 1700 O.1 dL_law_1600 rfl (fun hh => absurd rfl hh) (fun _ => ?_)
  refine uv_aload_n O.1 dL_law_1603 7 rfl rfl ?_
  refine uv_iconst O.1 dL_law_1604 (nI 0) rfl ?_
  refine uv_iconst O.1 dL_law_1605 (nI 0) rfl ?_
  refine uv_bipush O.1 dL_law_1606 (nI 41) rfl ?_
  refine ue_ctV (as := [.int (nI 0), .int (nI 0), .int (nI 41)]) (rest := []) O hfit dL_law_1608 (fun Z2 hZ2 => ct_X11_sheet hZ2 rfl y_sheetE.2.1) vx_RL_96 rfl rfl rfl ⟨(Nat.le_of_ble_eq_true rfl), (Nat.le_of_ble_eq_true rfl)⟩ (Nat.le_of_ble_eq_true rfl) (by omega) (by omega) (fun _ hfit => ?_)
  show uE Z C σ [(ak, .inl (zc Z 1, (20, .inl kd))), (am, .inl (zc Z 1, (4, .inl md))), (as, .inl (zc Z 1, (4, .inl sz))), (al, .inl (zc Z 1, (80, .inl ld)))] _ _ _ [(8, .int (nI 24)), (7, .ref al), (6, .ref as), (5, .ref am), (4, .int (nI words)), (3, .ref ak), (2, .int (nI 1)), (1, .ref (za Z 0)), (0, .ref b)] [.int (-nI 2)]
  refine uv_bipush O.1 dL_law_1611 (-nI 2) rfl ?_
  refine uv_icmp_ne 1700 O.1 dL_law_1613 rfl (fun hh => absurd rfl hh) (fun _ => ?_)
  refine uv_aload_n O.1 dL_law_1616 7 rfl rfl ?_
  refine uv_iconst O.1 dL_law_1617 (nI 0) rfl ?_
  refine uv_iconst O.1 dL_law_1618 (nI 0) rfl ?_
  refine uv_iconst O.1 dL_law_1619 (-nI 1) rfl ?_
  refine ue_ctV (as := [.int (nI 0), .int (nI 0), .int (-nI 1)]) (rest := []) O hfit dL_law_1620 (fun Z2 hZ2 => ct_X11_sheet hZ2 rfl y_sheetE.2.2) vx_RL_96 rfl rfl rfl ⟨(Nat.le_of_ble_eq_true rfl), (Nat.le_of_ble_eq_true rfl)⟩ (Nat.le_of_ble_eq_true rfl) (by omega) (by omega) (fun _ hfit => ?_)
  show uE Z C σ [(ak, .inl (zc Z 1, (20, .inl kd))), (am, .inl (zc Z 1, (4, .inl md))), (as, .inl (zc Z 1, (4, .inl sz))), (al, .inl (zc Z 1, (80, .inl ld)))] _ _ _ [(8, .int (nI 24)), (7, .ref al), (6, .ref as), (5, .ref am), (4, .int (nI words)), (3, .ref ak), (2, .int (nI 1)), (1, .ref (za Z 0)), (0, .ref b)] [.int (-nI 14)]
  refine uv_bipush O.1 dL_law_1623 (-nI 14) rfl ?_
  refine uv_icmp_ne 1700 O.1 dL_law_1625 rfl (fun hh => absurd rfl hh) (fun _ => ?_)
  refine uv_aload_n O.1 dL_law_1628 7 rfl rfl ?_
  refine uv_iconst O.1 dL_law_1629 (nI 4) rfl ?_
  refine uv_iconst O.1 dL_law_1630 (nI 0) rfl ?_
  refine uv_iconst O.1 dL_law_1631 (nI 0) rfl ?_
  refine ue_ctV (as := [.int (nI 4), .int (nI 0), .int (nI 0)]) (rest := []) O hfit dL_law_1632 (fun Z2 hZ2 => ct_X11_put hZ2 rfl y_put4) vx_RL_99 rfl rfl rfl ⟨(Nat.le_of_ble_eq_true rfl), (Nat.le_of_ble_eq_true rfl)⟩ (Nat.le_of_ble_eq_true rfl) (by omega) (by omega) (fun _ hfit => ?_)
  show uE Z C σ [(ak, .inl (zc Z 1, (20, .inl kd))), (am, .inl (zc Z 1, (4, .inl md))), (as, .inl (zc Z 1, (4, .inl sz))), (al, .inl (zc Z 1, (80, .inl ld)))] _ _ _ [(8, .int (nI 24)), (7, .ref al), (6, .ref as), (5, .ref am), (4, .int (nI words)), (3, .ref ak), (2, .int (nI 1)), (1, .ref (za Z 0)), (0, .ref b)] [.int (-nI 2)]
  refine uv_bipush O.1 dL_law_1635 (-nI 2) rfl ?_
  refine uv_icmp_ne 1700 O.1 dL_law_1637 rfl (fun hh => absurd rfl hh) (fun _ => ?_)
  refine uv_aload_n O.1 dL_law_1640 7 rfl rfl ?_
  refine uv_iconst O.1 dL_law_1641 (nI 5) rfl ?_
  refine ue_ctV (as := [.int (nI 5)]) (rest := []) O hfit dL_law_1642 (fun Z2 hZ2 => ct_X11_count hZ2 rfl y_count5) vx_RL_127 rfl rfl rfl ⟨(Nat.le_of_ble_eq_true rfl), (Nat.le_of_ble_eq_true rfl)⟩ (Nat.le_of_ble_eq_true rfl) (by omega) (by omega) (fun _ hfit => ?_)
  show uE Z C σ [(ak, .inl (zc Z 1, (20, .inl kd))), (am, .inl (zc Z 1, (4, .inl md))), (as, .inl (zc Z 1, (4, .inl sz))), (al, .inl (zc Z 1, (80, .inl ld)))] _ _ _ [(8, .int (nI 24)), (7, .ref al), (6, .ref as), (5, .ref am), (4, .int (nI words)), (3, .ref ak), (2, .int (nI 1)), (1, .ref (za Z 0)), (0, .ref b)] [.int (-nI 2)]
  refine uv_bipush O.1 dL_law_1645 (-nI 2) rfl ?_
  refine uv_icmp_ne 1700 O.1 dL_law_1647 rfl (fun hh => absurd rfl hh) (fun _ => ?_)
  have hw0 : 0 < znW g := by rw [hW]; omega
  refine uv_aload_n O.1 dL_law_1650 7 rfl rfl ?_
  refine uv_iconst O.1 dL_law_1651 (nI 0) rfl ?_
  refine uv_bipush O.1 dL_law_1652 (nI 6) rfl ?_
  refine ue_ctV (as := [.int (nI 0), .int (nI 6)]) (rest := []) O hfit dL_law_1654 (fun Z2 hZ2 => ct_X11_taken hZ2 rfl (y_takenN hB hw0)) vx_RL_84 rfl rfl rfl ⟨(Nat.le_of_ble_eq_true rfl), (Nat.le_of_ble_eq_true rfl)⟩ (Nat.le_of_ble_eq_true rfl) (by omega) (by omega) (fun _ hfit => ?_)
  show uE Z C σ [(ak, .inl (zc Z 1, (20, .inl kd))), (am, .inl (zc Z 1, (4, .inl md))), (as, .inl (zc Z 1, (4, .inl sz))), (al, .inl (zc Z 1, (80, .inl ld)))] _ _ _ [(8, .int (nI 24)), (7, .ref al), (6, .ref as), (5, .ref am), (4, .int (nI words)), (3, .ref ak), (2, .int (nI 1)), (1, .ref (za Z 0)), (0, .ref b)] [.int (-nI 2)]
  refine uv_bipush O.1 dL_law_1657 (-nI 2) rfl ?_
  refine uv_icmp_ne 1700 O.1 dL_law_1659 rfl (fun hh => absurd rfl hh) (fun _ => ?_)
  have hl := y_toldN (p := nI 0) hB
  rw [hW] at hl
  refine uv_aload_n O.1 dL_law_1662 7 rfl rfl ?_
  refine uv_iload O.1 dL_law_1663 4 rfl ?_
  refine uv_iconst O.1 dL_law_1665 (nI 0) rfl ?_
  refine ue_ctV (as := [.int (nI words), .int (nI 0)]) (rest := []) O hfit dL_law_1666 (fun Z2 hZ2 => ct_X11_told hZ2 rfl hl) vx_RL_87 rfl rfl rfl ⟨(Nat.le_of_ble_eq_true rfl), (Nat.le_of_ble_eq_true rfl)⟩ (Nat.le_of_ble_eq_true rfl) (by omega) (by omega) (fun _ hfit => ?_)
  show uE Z C σ [(ak, .inl (zc Z 1, (20, .inl kd))), (am, .inl (zc Z 1, (4, .inl md))), (as, .inl (zc Z 1, (4, .inl sz))), (al, .inl (zc Z 1, (80, .inl ld)))] _ _ _ [(8, .int (nI 24)), (7, .ref al), (6, .ref as), (5, .ref am), (4, .int (nI words)), (3, .ref ak), (2, .int (nI 1)), (1, .ref (za Z 0)), (0, .ref b)] [.int (-nI 2)]
  refine uv_bipush O.1 dL_law_1669 (-nI 2) rfl ?_
  refine uv_icmp_ne 1700 O.1 dL_law_1671 rfl (fun hh => absurd rfl hh) (fun _ => ?_)
  refine uv_aload_n O.1 dL_law_1674 7 rfl rfl ?_
  refine uv_iconst O.1 dL_law_1675 (nI 0) rfl ?_
  refine uv_iconst O.1 dL_law_1676 (nI 4) rfl ?_
  refine ue_ctV (as := [.int (nI 0), .int (nI 4)]) (rest := []) O hfit dL_law_1677 (fun Z2 hZ2 => ct_X11_told hZ2 rfl (y_told4 hB hw0)) vx_RL_87 rfl rfl rfl ⟨(Nat.le_of_ble_eq_true rfl), (Nat.le_of_ble_eq_true rfl)⟩ (Nat.le_of_ble_eq_true rfl) (by omega) (by omega) (fun _ hfit => ?_)
  show uE Z C σ [(ak, .inl (zc Z 1, (20, .inl kd))), (am, .inl (zc Z 1, (4, .inl md))), (as, .inl (zc Z 1, (4, .inl sz))), (al, .inl (zc Z 1, (80, .inl ld)))] _ _ _ [(8, .int (nI 24)), (7, .ref al), (6, .ref as), (5, .ref am), (4, .int (nI words)), (3, .ref ak), (2, .int (nI 1)), (1, .ref (za Z 0)), (0, .ref b)] [.int (-nI 2)]
  refine uv_bipush O.1 dL_law_1680 (-nI 2) rfl ?_
  refine uv_icmp_ne 1700 O.1 dL_law_1682 rfl (fun hh => absurd rfl hh) (fun _ => ?_)
  refine uv_aload_n O.1 dL_law_1685 7 rfl rfl ?_
  refine uv_iconst O.1 dL_law_1686 (nI 0) rfl ?_
  refine uv_iconst O.1 dL_law_1687 (nI 3) rfl ?_
  refine ue_ctV (as := [.int (nI 0), .int (nI 3)]) (rest := []) O hfit dL_law_1688 (fun Z2 hZ2 => ct_X11_tells hZ2 rfl y_tells3) vx_RL_102 rfl rfl rfl ⟨(Nat.le_of_ble_eq_true rfl), (Nat.le_of_ble_eq_true rfl)⟩ (Nat.le_of_ble_eq_true rfl) (by omega) (by omega) (fun _ hfit => ?_)
  show uE Z C σ [(ak, .inl (zc Z 1, (20, .inl kd))), (am, .inl (zc Z 1, (4, .inl md))), (as, .inl (zc Z 1, (4, .inl sz))), (al, .inl (zc Z 1, (80, .inl ld)))] _ _ _ [(8, .int (nI 24)), (7, .ref al), (6, .ref as), (5, .ref am), (4, .int (nI words)), (3, .ref ak), (2, .int (nI 1)), (1, .ref (za Z 0)), (0, .ref b)] [.int (-nI 2)]
  refine uv_bipush O.1 dL_law_1691 (-nI 2) rfl ?_
  refine uv_icmp_ne 1700 O.1 dL_law_1693 rfl (fun hh => absurd rfl hh) (fun _ => ?_)
  refine uv_iconst O.1 dL_law_1696 (nI 1) rfl ?_
  refine uv_goto 1701 O.1 dL_law_1697 rfl ?_
  refine uv_widen (k' := 600000) (n' := 7302249) (by omega) (by omega) ?_
  exact kk
