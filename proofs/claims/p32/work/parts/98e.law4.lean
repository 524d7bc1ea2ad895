theorem y_unT {o kd : Nat} (h : kd = 0 ∨ kd = o ∨ kd = 1 ∧ (o = 3 ∨ o = 4) ∨ kd = 2 ∧ o = 5) : true = zund o kd := by
  unfold zund
  rcases h with h | h | ⟨h, h1 | h1⟩ | ⟨h, h1⟩ <;> simp [*]
theorem y_unF {o kd : Nat} (h : ¬ (kd = 0 ∨ kd = o ∨ kd = 1 ∧ (o = 3 ∨ o = 4) ∨ kd = 2 ∧ o = 5)) : false = zund o kd := by
  cases e : zund o kd with
  | false => rfl
  | true =>
    exfalso
    apply h
    unfold zund at e
    simp only [Bool.or_eq_true, Bool.and_eq_true, beq_iff_eq] at e
    omega
theorem y_8d : ∀ d : Fin 3, nI 8 * nI d.1 = nI (8 * d.1) := by decide +kernel
def y01 (u : Bool) : Nat := if u = true then 1 else 0
set_option maxHeartbeats 4000000 in
theorem w_lays2 {Z : ZT} {C : CX} {b N k25 v25 k34 v34 : Nat} {xs ef : Nat → Int32} (O : jOk Z C RL cL_law 19 13 494 600000 7302249) (hXs : jXs b N xs (c_A C) (c_s C) (c_s C).heap) (hN : N ≤ 600) (h25 : jK 25 "" k25 v25 0 ef (c_A C) (c_s C) (c_s C).heap) (hef : jF ef) (h34 : jK 34 "aeobtkle" k34 v34 8 (fun k => zsg (yal.getD k 0)) (c_A C) (c_s C) (c_s C).heap) {k0 n0 T t c12 words al as am ak qb vb : Nat} {q pl : Int32} {σ : Mem} {g kd md sz ld fb : Nat → Int32} (hk0 : k0 ≤ 300000) (hn0 : n0 ≤ 3000000) (hI : yI σ g kd md sz ld words) (hfit : hFit σ) (ht : t < 4) {w : Int32} {un : Bool} (hp3 : (w = -nI 1 ∧ un = true) ∨ ∃ wn, wn < words ∧ w = nI wn ∧ (¬ md t = -nI 1 → un = yun (g (zwa wn)) (md t))) (kk : ∀ (σ2 : Mem) (g2 kd2 md2 sz2 ld2 : Nat → Int32) (w2 : Nat), yI σ2 g2 kd2 md2 sz2 ld2 w2 → ySay g2 = ySay g → hFit σ2 → uE Z C σ2 [(ak, .inl (zc Z 1, (20, .inl kd2))), (am, .inl (zc Z 1, (4, .inl md2))), (as, .inl (zc Z 1, (4, .inl sz2))), (al, .inl (zc Z 1, (80, .inl ld2))), (qb, .inr (12, [.ref vb, .int (nI 0), .int (nI 0), .int (nI 0)])), (vb, .inl (zc Z 0, ((ySay g).length, .inl fb)))] (k0 + 24) (n0 + 1576) 1377 [(13, .ref qb), (10, .int (nI t)), (8, .int (nI T)), (7, .ref al), (6, .ref as), (5, .ref am), (4, .int (nI w2)), (3, .ref ak), (2, .int (nI 1)), (1, .ref (za Z 0)), (0, .ref b)] []) : uE Z C σ [(ak, .inl (zc Z 1, (20, .inl kd))), (am, .inl (zc Z 1, (4, .inl md))), (as, .inl (zc Z 1, (4, .inl sz))), (al, .inl (zc Z 1, (80, .inl ld))), (qb, .inr (12, [.ref vb, .int (nI 0), .int (nI 0), .int (nI 0)])), (vb, .inl (zc Z 0, ((ySay g).length, .inl fb)))] k0 n0 462 [(14, .int w), (13, .ref qb), (12, .int (nI c12)), (11, .int pl), (10, .int (nI t)), (9, .int q), (8, .int (nI T)), (7, .ref al), (6, .ref as), (5, .ref am), (4, .int (nI words)), (3, .ref ak), (2, .int (nI 1)), (1, .ref (za Z 0)), (0, .ref b)] [.int (nI (y01 un))] := by
  have hB := hI.1; have hG := hI.2.1; have hz := hI.2.2.1; have hW : znW g = words := hI.2.2.2.1; have h6 : 6 ≤ words := (hW ▸ hG.2.2.2.2.2.2.2 : 6 ≤ words); have h20 : words ≤ 20 := (hW ▸ hB.1.1.2 : words ≤ 20)
  rw [← hW] at hp3
  show uE Z C σ [(ak, .inl (zc Z 1, (20, .inl kd))), (am, .inl (zc Z 1, (4, .inl md))), (as, .inl (zc Z 1, (4, .inl sz))), (al, .inl (zc Z 1, (80, .inl ld))), (qb, .inr (12, [.ref vb, .int (nI 0), .int (nI 0), .int (nI 0)])), (vb, .inl (zc Z 0, ((ySay g).length, .inl fb)))] _ _ _ [(14, .int w), (13, .ref qb), (12, .int (nI c12)), (11, .int pl), (10, .int (nI t)), (9, .int q), (8, .int (nI T)), (7, .ref al), (6, .ref as), (5, .ref am), (4, .int (nI words)), (3, .ref ak), (2, .int (nI 1)), (1, .ref (za Z 0)), (0, .ref b)] [.int (nI (y01 un))]
  refine uv_istore O.1 dL_law_462 (by omega) [(16, .int (nI (y01 un))), (14, .int w), (13, .ref qb), (12, .int (nI c12)), (11, .int pl), (10, .int (nI t)), (9, .int q), (8, .int (nI T)), (7, .ref al), (6, .ref as), (5, .ref am), (4, .int (nI words)), (3, .ref ak), (2, .int (nI 1)), (1, .ref (za Z 0)), (0, .ref b)] rfl ?_
  refine uv_aload O.1 dL_law_464 10 rfl ?_
  refine uv_iload O.1 dL_law_466 5 rfl ?_
  have J508 : ∀ D : Int32, D = ydue (md t) (sz t) pl un → uE Z C σ [(ak, .inl (zc Z 1, (20, .inl kd))), (am, .inl (zc Z 1, (4, .inl md))), (as, .inl (zc Z 1, (4, .inl sz))), (al, .inl (zc Z 1, (80, .inl ld))), (qb, .inr (12, [.ref vb, .int (nI 0), .int (nI 0), .int (nI 0)])), (vb, .inl (zc Z 0, ((ySay g).length, .inl fb)))] k0 n0 508 [(16, .int (nI (y01 un))), (14, .int w), (13, .ref qb), (12, .int (nI c12)), (11, .int pl), (10, .int (nI t)), (9, .int q), (8, .int (nI T)), (7, .ref al), (6, .ref as), (5, .ref am), (4, .int (nI words)), (3, .ref ak), (2, .int (nI 1)), (1, .ref (za Z 0)), (0, .ref b)] [.int D] := by
    intro D hD
    refine uv_istore O.1 dL_law_508 (by omega) [(17, .int D), (16, .int (nI (y01 un))), (14, .int w), (13, .ref qb), (12, .int (nI c12)), (11, .int pl), (10, .int (nI t)), (9, .int q), (8, .int (nI T)), (7, .ref al), (6, .ref as), (5, .ref am), (4, .int (nI words)), (3, .ref ak), (2, .int (nI 1)), (1, .ref (za Z 0)), (0, .ref b)] rfl ?_
    refine uv_iload_n O.1 dL_law_510 14 rfl rfl ?_
    refine uv_aload_n O.1 dL_law_511 15 rfl rfl ?_
    refine uv_iload O.1 dL_law_512 6 rfl ?_
    refine uv_iload O.1 dL_law_514 5 rfl ?_
    refine uv_iload O.1 dL_law_516 2 rfl ?_
    obtain ⟨τ, u1, u2, u3, u4⟩ := y_lays (p2 := pl) hB hI.2.2.2.2.2 ht hp3
    rw [← hD] at u1 u2 u3
    refine ue_ctV (as := [.int (nI t), .int pl, .int w]) (rest := [.int (nI 1)]) O hfit dL_law_518 (fun Z2 hZ2 => ct_X11_lays hZ2 rfl u1) vx_RL_81 rfl rfl rfl ⟨(Nat.le_of_ble_eq_true rfl), (Nat.le_of_ble_eq_true rfl)⟩ (Nat.le_of_ble_eq_true rfl) (by omega) (by omega) (fun _ hfit => ?_)
    show uE Z C τ [(ak, .inl (zc Z 1, (20, .inl kd))), (am, .inl (zc Z 1, (4, .inl md))), (as, .inl (zc Z 1, (4, .inl sz))), (al, .inl (zc Z 1, (80, .inl ld))), (qb, .inr (12, [.ref vb, .int (nI 0), .int (nI 0), .int (nI 0)])), (vb, .inl (zc Z 0, ((ySay g).length, .inl fb)))] _ _ _ [(17, .int D), (16, .int (nI (y01 un))), (14, .int w), (13, .ref qb), (12, .int (nI c12)), (11, .int pl), (10, .int (nI t)), (9, .int q), (8, .int (nI T)), (7, .ref al), (6, .ref as), (5, .ref am), (4, .int (nI words)), (3, .ref ak), (2, .int (nI 1)), (1, .ref (za Z 0)), (0, .ref b)] [.int D, .int (nI 1)]
    refine uv_iload O.1 dL_law_521 0 rfl ?_
    refine uv_icmp_ne 530 O.1 dL_law_523 rfl (fun hh => absurd rfl hh) (fun _ => ?_)
    refine uv_iconst O.1 dL_law_526 (nI 1) rfl ?_
    refine uv_goto 531 O.1 dL_law_527 rfl ?_
    refine uv_iand (z := nI 1) O.1 dL_law_531 (by decide +kernel) ?_
    refine uv_istore_n O.1 dL_law_532 rfl (by omega) [(2, .int (nI 1)), (17, .int D), (16, .int (nI (y01 un))), (14, .int w), (13, .ref qb), (12, .int (nI c12)), (11, .int pl), (10, .int (nI t)), (9, .int q), (8, .int (nI T)), (7, .ref al), (6, .ref as), (5, .ref am), (4, .int (nI words)), (3, .ref ak), (1, .ref (za Z 0)), (0, .ref b)] rfl ?_
    have J552 : ∀ ld2 : Nat → Int32, yI τ g kd md sz ld2 words → uE Z C τ [(ak, .inl (zc Z 1, (20, .inl kd))), (am, .inl (zc Z 1, (4, .inl md))), (as, .inl (zc Z 1, (4, .inl sz))), (al, .inl (zc Z 1, (80, .inl ld2))), (qb, .inr (12, [.ref vb, .int (nI 0), .int (nI 0), .int (nI 0)])), (vb, .inl (zc Z 0, ((ySay g).length, .inl fb)))] k0 n0 552 [(2, .int (nI 1)), (17, .int D), (16, .int (nI (y01 un))), (14, .int w), (13, .ref qb), (12, .int (nI c12)), (11, .int pl), (10, .int (nI t)), (9, .int q), (8, .int (nI T)), (7, .ref al), (6, .ref as), (5, .ref am), (4, .int (nI words)), (3, .ref ak), (1, .ref (za Z 0)), (0, .ref b)] [] := by
      intro ld2 hI2
      refine uv_iload O.1 dL_law_552 3 rfl ?_
      rcases hp3 with ⟨hw, -⟩ | ⟨wn, hwn, hw, hu⟩
      · subst hw
        refine uv_if_lt 633 O.1 dL_law_554 rfl (fun _ => ?_) (fun hh => absurd (by decide +kernel) hh)
        refine uv_goto 1377 O.1 dL_law_633 rfl ?_
        refine uv_sub [4, 7, 9, 10, 11, 12, 13, 14, 0, 15, 16] rfl ?_
        refine uv_widen (k' := k0 + 24) (n' := n0 + 1576) (by omega) (by omega) ?_
        exact kk τ g kd md sz ld2 words hI2 rfl hfit
      · subst hw
        refine uv_if_lt 633 O.1 dL_law_554 rfl (fun hh => absurd hh (j_nn (by omega))) (fun _ => ?_)
        refine uv_aload O.1 dL_law_557 12 rfl ?_
        refine uv_iload O.1 dL_law_559 7 rfl ?_
        rcases hI.2.2.2.2.2 t ht with ⟨hm, -⟩ | ⟨k5, n, hk5, hn, hm, hsz, -⟩
        · refine ue_ild (j := 1) (w := t) O dL_law_561 rfl rfl ht (by omega) hm ?_
          refine uv_if_lt 633 O.1 dL_law_562 rfl (fun _ => ?_) (fun hh => absurd (by decide +kernel) hh)
          refine uv_goto 1377 O.1 dL_law_633 rfl ?_
          refine uv_sub [4, 7, 9, 10, 11, 12, 13, 14, 0, 15, 16] rfl ?_
          refine uv_widen (k' := k0 + 24) (n' := n0 + 1576) (by omega) (by omega) ?_
          exact kk τ g kd md sz ld2 words hI2 rfl hfit
        · refine ue_ild (j := 1) (w := t) O dL_law_561 rfl rfl ht (by omega) hm ?_
          refine uv_if_lt 633 O.1 dL_law_562 rfl (fun hh => absurd hh (j_nn (by omega))) (fun _ => ?_)
          refine uv_aload_n O.1 dL_law_565 15 rfl rfl ?_
          refine uv_iload O.1 dL_law_566 3 rfl ?_
          refine uv_aload O.1 dL_law_568 12 rfl ?_
          refine uv_iload O.1 dL_law_570 7 rfl ?_
          refine ue_ild (j := 1) (w := t) O dL_law_572 rfl rfl ht (by omega) hm ?_
          have hu := hu (by rw [hm]; exact yn1 (by omega))
          rw [hm, yun, zi_ix (by omega)] at hu
          have hwn2 : wn < znW g := hwn
          rcases y_taken (k := k5) hI2.1 hwn2 (by omega) with ⟨z1, z2⟩ | ⟨z1, τ2, z2, z3⟩
          · rw [z1] at hu
            subst hu
            refine ue_ctV (as := [.int (nI wn), .int (nI k5)]) (rest := []) O hfit dL_law_573 (fun Z2 hZ2 => ct_X11_taken hZ2 rfl z2) vx_RL_84 rfl rfl rfl ⟨(Nat.le_of_ble_eq_true rfl), (Nat.le_of_ble_eq_true rfl)⟩ (Nat.le_of_ble_eq_true rfl) (by omega) (by omega) (fun _ hfit => ?_)
            show uE Z C τ [(ak, .inl (zc Z 1, (20, .inl kd))), (am, .inl (zc Z 1, (4, .inl md))), (as, .inl (zc Z 1, (4, .inl sz))), (al, .inl (zc Z 1, (80, .inl ld2))), (qb, .inr (12, [.ref vb, .int (nI 0), .int (nI 0), .int (nI 0)])), (vb, .inl (zc Z 0, ((ySay g).length, .inl fb)))] _ _ _ [(2, .int (nI 1)), (17, .int D), (16, .int (nI (y01 false))), (14, .int (nI wn)), (13, .ref qb), (12, .int (nI c12)), (11, .int pl), (10, .int (nI t)), (9, .int q), (8, .int (nI T)), (7, .ref al), (6, .ref as), (5, .ref am), (4, .int (nI words)), (3, .ref ak), (1, .ref (za Z 0)), (0, .ref b)] [.int (-nI 13)]
            refine uv_istore O.1 dL_law_576 (by omega) [(18, .int (-nI 13)), (2, .int (nI 1)), (17, .int D), (16, .int (nI (y01 false))), (14, .int (nI wn)), (13, .ref qb), (12, .int (nI c12)), (11, .int pl), (10, .int (nI t)), (9, .int q), (8, .int (nI T)), (7, .ref al), (6, .ref as), (5, .ref am), (4, .int (nI words)), (3, .ref ak), (1, .ref (za Z 0)), (0, .ref b)] rfl ?_
            refine uv_iload_n O.1 dL_law_578 1 rfl rfl ?_
            refine uv_iload O.1 dL_law_579 3 rfl ?_
            refine uv_eqT 619 O.1 dL_law_581 rfl rfl ?_
            refine uv_iload O.1 dL_law_619 0 rfl ?_
            refine uv_bipush O.1 dL_law_621 (-nI 13) rfl ?_
            refine uv_icmp_ne 630 O.1 dL_law_623 rfl (fun hh => absurd rfl hh) (fun _ => ?_)
            refine uv_iconst O.1 dL_law_626 (nI 1) rfl ?_
            refine uv_goto 631 O.1 dL_law_627 rfl ?_
            refine uv_iand (z := nI 1) O.1 dL_law_631 (by decide +kernel) ?_
            refine uv_istore_n O.1 dL_law_632 rfl (by omega) [(2, .int (nI 1)), (18, .int (-nI 13)), (17, .int D), (16, .int (nI (y01 false))), (14, .int (nI wn)), (13, .ref qb), (12, .int (nI c12)), (11, .int pl), (10, .int (nI t)), (9, .int q), (8, .int (nI T)), (7, .ref al), (6, .ref as), (5, .ref am), (4, .int (nI words)), (3, .ref ak), (1, .ref (za Z 0)), (0, .ref b)] rfl ?_
            refine uv_goto 1377 O.1 dL_law_633 rfl ?_
            refine uv_sub [5, 8, 10, 11, 12, 13, 14, 15, 0, 16, 17] rfl ?_
            refine uv_widen (k' := k0 + 24) (n' := n0 + 1576) (by omega) (by omega) ?_
            exact kk τ g kd md sz ld2 words hI2 rfl hfit
          · rw [z1] at hu
            subst hu
            have w4 := (hB.1.2.2.1 wn hwn2).2.2.1
            obtain ⟨dd, hdd, hdd2⟩ : ∃ dd, dd = ix (g (zwa wn + 2)) ∧ dd ≤ 2 := ⟨_, rfl, w4.2⟩
            have w5 := w4.1
            rw [← hdd] at z2 w5
            have hI3 : yI τ2 g kd md sz ld2 words := yI_co hI2 (fun x c p q => z3 x c (by omega) (by omega))
            refine ue_ctV (as := [.int (nI wn), .int (nI k5)]) (rest := []) O hfit dL_law_573 (fun Z2 hZ2 => ct_X11_taken hZ2 rfl z2) vx_RL_84 rfl rfl rfl ⟨(Nat.le_of_ble_eq_true rfl), (Nat.le_of_ble_eq_true rfl)⟩ (Nat.le_of_ble_eq_true rfl) (by omega) (by omega) (fun _ hfit => ?_)
            show uE Z C τ2 [(ak, .inl (zc Z 1, (20, .inl kd))), (am, .inl (zc Z 1, (4, .inl md))), (as, .inl (zc Z 1, (4, .inl sz))), (al, .inl (zc Z 1, (80, .inl ld2))), (qb, .inr (12, [.ref vb, .int (nI 0), .int (nI 0), .int (nI 0)])), (vb, .inl (zc Z 0, ((ySay g).length, .inl fb)))] _ _ _ [(2, .int (nI 1)), (17, .int D), (16, .int (nI (y01 true))), (14, .int (nI wn)), (13, .ref qb), (12, .int (nI c12)), (11, .int pl), (10, .int (nI t)), (9, .int q), (8, .int (nI T)), (7, .ref al), (6, .ref as), (5, .ref am), (4, .int (nI words)), (3, .ref ak), (1, .ref (za Z 0)), (0, .ref b)] [.int (nI (zform g wn 1 1 dd 1).length)]
            refine uv_istore O.1 dL_law_576 (by omega) [(18, .int (nI (zform g wn 1 1 dd 1).length)), (2, .int (nI 1)), (17, .int D), (16, .int (nI (y01 true))), (14, .int (nI wn)), (13, .ref qb), (12, .int (nI c12)), (11, .int pl), (10, .int (nI t)), (9, .int q), (8, .int (nI T)), (7, .ref al), (6, .ref as), (5, .ref am), (4, .int (nI words)), (3, .ref ak), (1, .ref (za Z 0)), (0, .ref b)] rfl ?_
            refine uv_iload_n O.1 dL_law_578 1 rfl rfl ?_
            refine uv_iload O.1 dL_law_579 3 rfl ?_
            refine uv_eqF 619 O.1 dL_law_581 rfl (by decide +kernel) ?_
            refine uv_iload O.1 dL_law_584 0 rfl ?_
            refine uv_aload_n O.1 dL_law_586 16 rfl rfl ?_
            refine uv_iload O.1 dL_law_587 4 rfl ?_
            refine uv_iconst O.1 dL_law_589 (nI 5) rfl ?_
            refine uv_bipush O.1 dL_law_590 (nI 8) rfl ?_
            refine uv_aload_n O.1 dL_law_592 16 rfl rfl ?_
            refine uv_iload O.1 dL_law_593 4 rfl ?_
            refine uv_iconst O.1 dL_law_595 (nI 2) rfl ?_
            have t2 := y_told2 hI3.1 hwn2
            rw [w5] at t2
            refine ue_ctV (as := [.int (nI wn), .int (nI 2)]) (rest := [.int (nI 8), .int (nI 5), .int (nI wn), .ref (za Z 0), .int (nI (zform g wn 1 1 dd 1).length), .int (nI 1)]) O hfit dL_law_596 (fun Z2 hZ2 => ct_X11_told hZ2 rfl t2) vx_RL_87 rfl rfl rfl ⟨(Nat.le_of_ble_eq_true rfl), (Nat.le_of_ble_eq_true rfl)⟩ (Nat.le_of_ble_eq_true rfl) (by omega) (by omega) (fun _ hfit => ?_)
            show uE Z C τ2 [(ak, .inl (zc Z 1, (20, .inl kd))), (am, .inl (zc Z 1, (4, .inl md))), (as, .inl (zc Z 1, (4, .inl sz))), (al, .inl (zc Z 1, (80, .inl ld2))), (qb, .inr (12, [.ref vb, .int (nI 0), .int (nI 0), .int (nI 0)])), (vb, .inl (zc Z 0, ((ySay g).length, .inl fb)))] _ _ _ [(18, .int (nI (zform g wn 1 1 dd 1).length)), (2, .int (nI 1)), (17, .int D), (16, .int (nI (y01 true))), (14, .int (nI wn)), (13, .ref qb), (12, .int (nI c12)), (11, .int pl), (10, .int (nI t)), (9, .int q), (8, .int (nI T)), (7, .ref al), (6, .ref as), (5, .ref am), (4, .int (nI words)), (3, .ref ak), (1, .ref (za Z 0)), (0, .ref b)] [.int (nI dd), .int (nI 8), .int (nI 5), .int (nI wn), .ref (za Z 0), .int (nI (zform g wn 1 1 dd 1).length), .int (nI 1)]
            refine uv_imul (z := nI (8 * dd)) O.1 dL_law_599 (y_8d ⟨dd, by omega⟩) ?_
            refine uv_iaddE (z := nI (5 + 8 * dd)) O.1 dL_law_600 (zI.1 _ _) ?_
            refine uv_bipush O.1 dL_law_601 (nI 24) rfl ?_
            refine uv_iaddE (z := nI (5 + 8 * dd + 24)) O.1 dL_law_603 (zI.1 _ _) ?_
            refine uv_iconst O.1 dL_law_604 (-nI 1) rfl ?_
            obtain ⟨τ3, t3, t4⟩ := y_form hI3.1 hwn2
            rw [← hdd] at t3
            refine ue_ctV (as := [.int (nI wn), .int (nI (5 + 8 * dd + 24)), .int (-nI 1)]) (rest := [.int (nI (zform g wn 1 1 dd 1).length), .int (nI 1)]) O hfit dL_law_605 (fun Z2 hZ2 => ct_X11_form hZ2 rfl t3) vx_RL_90 rfl rfl rfl ⟨(Nat.le_of_ble_eq_true rfl), (Nat.le_of_ble_eq_true rfl)⟩ (Nat.le_of_ble_eq_true rfl) (by omega) (by omega) (fun _ hfit => ?_)
            show uE Z C τ3 [(ak, .inl (zc Z 1, (20, .inl kd))), (am, .inl (zc Z 1, (4, .inl md))), (as, .inl (zc Z 1, (4, .inl sz))), (al, .inl (zc Z 1, (80, .inl ld2))), (qb, .inr (12, [.ref vb, .int (nI 0), .int (nI 0), .int (nI 0)])), (vb, .inl (zc Z 0, ((ySay g).length, .inl fb)))] _ _ _ [(18, .int (nI (zform g wn 1 1 dd 1).length)), (2, .int (nI 1)), (17, .int D), (16, .int (nI (y01 true))), (14, .int (nI wn)), (13, .ref qb), (12, .int (nI c12)), (11, .int pl), (10, .int (nI t)), (9, .int q), (8, .int (nI T)), (7, .ref al), (6, .ref as), (5, .ref am), (4, .int (nI words)), (3, .ref ak), (1, .ref (za Z 0)), (0, .ref b)] [.int (nI (zform g wn 1 1 dd 1).length), .int (nI (zform g wn 1 1 dd 1).length), .int (nI 1)]
            refine uv_icmp_ne 615 O.1 dL_law_608 rfl (fun hh => absurd rfl hh) (fun _ => ?_)
            refine uv_iconst O.1 dL_law_611 (nI 1) rfl ?_
            refine uv_goto 631 O.1 dL_law_612 rfl ?_
            refine uv_iand (z := nI 1) O.1 dL_law_631 (by decide +kernel) ?_
            refine uv_istore_n O.1 dL_law_632 rfl (by omega) [(2, .int (nI 1)), (18, .int (nI (zform g wn 1 1 dd 1).length)), (17, .int D), (16, .int (nI (y01 true))), (14, .int (nI wn)), (13, .ref qb), (12, .int (nI c12)), (11, .int pl), (10, .int (nI t)), (9, .int q), (8, .int (nI T)), (7, .ref al), (6, .ref as), (5, .ref am), (4, .int (nI words)), (3, .ref ak), (1, .ref (za Z 0)), (0, .ref b)] rfl ?_
            refine uv_goto 1377 O.1 dL_law_633 rfl ?_
            refine uv_sub [5, 8, 10, 11, 12, 13, 14, 15, 0, 16, 17] rfl ?_
            refine uv_widen (k' := k0 + 24) (n' := n0 + 1576) (by omega) (by omega) ?_
            exact kk τ3 g kd md sz ld2 words (yI_co hI3 (fun x c p q => t4 x c (by omega) (by omega))) rfl hfit
    refine uv_iload O.1 dL_law_533 1 rfl ?_
    refine uv_iconst O.1 dL_law_535 (nI 1) rfl ?_
    by_cases h1 : D = nI 1
    · obtain ⟨p, rfl, hp, hT⟩ := u2 h1
      refine uv_icmp_ne 552 O.1 dL_law_536 rfl (fun hh => absurd h1 hh) (fun _ => ?_)
      refine uv_aload O.1 dL_law_539 10 rfl ?_
      refine uv_bipush O.1 dL_law_541 (nI 20) rfl ?_
      refine uv_iload O.1 dL_law_543 7 rfl ?_
      refine uv_imul (z := nI (20 * t)) O.1 dL_law_545 (y_20t ⟨t, ht⟩) ?_
      refine uv_iload O.1 dL_law_546 6 rfl ?_
      refine uv_iaddE (z := nI (20 * t + p)) O.1 dL_law_548 (zI.1 _ _) ?_
      refine uv_iload O.1 dL_law_549 3 rfl ?_
      refine ue_ist (j := 3) (w := (20 * t + p)) (E' := [(ak, .inl (zc Z 1, (20, .inl kd))), (am, .inl (zc Z 1, (4, .inl md))), (as, .inl (zc Z 1, (4, .inl sz))), (al, .inl (zc Z 1, (80, .inl (upd ld (20 * t + p) w)))), (qb, .inr (12, [.ref vb, .int (nI 0), .int (nI 0), .int (nI 0)])), (vb, .inl (zc Z 0, ((ySay g).length, .inl fb)))]) O dL_law_551 rfl rfl (by omega) (by omega) rfl ?_
      exact J552 _ (yI_tr hI u4 hT)
    · refine uv_icmp_ne 552 O.1 dL_law_536 rfl (fun _ => ?_) (fun hh => absurd hh h1)
      have := u3 h1
      subst this
      exact J552 _ hI
  rcases hI.2.2.2.2.2 t ht with ⟨hm, -⟩ | ⟨k5, n, hk5, hn, hm, hsz, -⟩
  · refine ue_ild (j := 1) (w := t) O dL_law_468 rfl rfl ht (by omega) hm ?_
    refine uv_if_ge 477 O.1 dL_law_469 rfl (fun hh => absurd hh (by decide +kernel)) (fun _ => ?_)
    refine uv_bipush O.1 dL_law_472 (-nI 11) rfl ?_
    refine uv_goto 508 O.1 dL_law_474 rfl ?_
    exact J508 _ (by unfold ydue; rw [if_pos hm])
  · refine ue_ild (j := 1) (w := t) O dL_law_468 rfl rfl ht (by omega) hm ?_
    have hu : ∀ X Y Z : Int32, (if md t = -nI 1 then X else Y) = Y := fun X Y Z => if_neg (by rw [hm]; exact yn1 (by omega))
    refine uv_if_ge 477 O.1 dL_law_469 rfl (fun _ => ?_) (fun hh => absurd (show (0 : Int32) ≤ nI k5 from nI_pos' (by omega)) hh)
    refine uv_iload O.1 dL_law_477 4 rfl ?_
    refine uv_if_lt 492 O.1 dL_law_479 rfl (fun h0 => ?_) (fun h0 => ?_)
    · refine uv_bipush O.1 dL_law_492 (-nI 12) rfl ?_
      refine uv_goto 508 O.1 dL_law_494 rfl ?_
      exact J508 _ (by unfold ydue; rw [hu _ _ 0, if_pos (Or.inl h0)])
    · refine uv_iload O.1 dL_law_482 4 rfl ?_
      refine uv_aload O.1 dL_law_484 9 rfl ?_
      refine uv_iload O.1 dL_law_486 5 rfl ?_
      refine ue_ild (j := 2) (w := t) O dL_law_488 rfl rfl ht (by omega) rfl ?_
      refine uv_icmp_lt 497 O.1 dL_law_489 rfl (fun h3 => ?_) (fun h3 => ?_)
      · refine uv_iload O.1 dL_law_497 0 rfl ?_
        have h4 : ¬ (pl < 0 ∨ sz t ≤ pl) := fun q => q.elim h0 (fun q => Int32.not_lt.mpr q h3)
        cases un with
        | false =>
          refine uv_eqT 506 O.1 dL_law_499 rfl rfl ?_
          refine uv_bipush O.1 dL_law_506 (-nI 16) rfl ?_
          exact J508 _ (by unfold ydue; rw [hu _ _ 0, if_neg h4]; rfl)
        | true =>
          refine uv_eqF 506 O.1 dL_law_499 rfl (by decide +kernel) ?_
          refine uv_iconst O.1 dL_law_502 (nI 1) rfl ?_
          refine uv_goto 508 O.1 dL_law_503 rfl ?_
          exact J508 _ (by unfold ydue; rw [hu _ _ 0, if_neg h4]; rfl)
      · refine uv_bipush O.1 dL_law_492 (-nI 12) rfl ?_
        refine uv_goto 508 O.1 dL_law_494 rfl ?_
        exact J508 _ (by unfold ydue; rw [hu _ _ 0, if_pos (Or.inr (Int32.not_lt.mp h3))])
set_option maxHeartbeats 4000000 in
theorem w_lays {Z : ZT} {C : CX} {b N k25 v25 k34 v34 : Nat} {xs ef : Nat → Int32} (O : jOk Z C RL cL_law 19 13 494 600000 7302249) (hXs : jXs b N xs (c_A C) (c_s C) (c_s C).heap) (hN : N ≤ 600) (h25 : jK 25 "" k25 v25 0 ef (c_A C) (c_s C) (c_s C).heap) (hef : jF ef) (h34 : jK 34 "aeobtkle" k34 v34 8 (fun k => zsg (yal.getD k 0)) (c_A C) (c_s C) (c_s C).heap) {k0 n0 T t c12 words al as am ak qb vb : Nat} {q pl : Int32} {σ : Mem} {g kd md sz ld fb : Nat → Int32} (hk0 : k0 ≤ 300000) (hn0 : n0 ≤ 3000000) (hI : yI σ g kd md sz ld words) (hfit : hFit σ) (ht : t < 4)  (kk : ∀ (σ2 : Mem) (g2 kd2 md2 sz2 ld2 : Nat → Int32) (w2 : Nat), yI σ2 g2 kd2 md2 sz2 ld2 w2 → ySay g2 = ySay g → hFit σ2 → uE Z C σ2 [(ak, .inl (zc Z 1, (20, .inl kd2))), (am, .inl (zc Z 1, (4, .inl md2))), (as, .inl (zc Z 1, (4, .inl sz2))), (al, .inl (zc Z 1, (80, .inl ld2))), (qb, .inr (12, [.ref vb, .int (nI 0), .int (nI 0), .int (nI 0)])), (vb, .inl (zc Z 0, ((ySay g).length, .inl fb)))] (k0 + 24) (n0 + 1576) 1377 [(13, .ref qb), (10, .int (nI t)), (8, .int (nI T)), (7, .ref al), (6, .ref as), (5, .ref am), (4, .int (nI w2)), (3, .ref ak), (2, .int (nI 1)), (1, .ref (za Z 0)), (0, .ref b)] []) : uE Z C σ [(ak, .inl (zc Z 1, (20, .inl kd))), (am, .inl (zc Z 1, (4, .inl md))), (as, .inl (zc Z 1, (4, .inl sz))), (al, .inl (zc Z 1, (80, .inl ld))), (qb, .inr (12, [.ref vb, .int (nI 0), .int (nI 0), .int (nI 0)])), (vb, .inl (zc Z 0, ((ySay g).length, .inl fb)))] k0 n0 366 [(13, .ref qb), (12, .int (nI c12)), (11, .int pl), (10, .int (nI t)), (9, .int q), (8, .int (nI T)), (7, .ref al), (6, .ref as), (5, .ref am), (4, .int (nI words)), (3, .ref ak), (2, .int (nI 1)), (1, .ref (za Z 0)), (0, .ref b)] [] := by
  have hB := hI.1; have hG := hI.2.1; have hz := hI.2.2.1; have hW : znW g = words := hI.2.2.2.1; have h6 : 6 ≤ words := (hW ▸ hG.2.2.2.2.2.2.2 : 6 ≤ words); have h20 : words ≤ 20 := (hW ▸ hB.1.1.2 : words ≤ 20)
  show uE Z C σ [(ak, .inl (zc Z 1, (20, .inl kd))), (am, .inl (zc Z 1, (4, .inl md))), (as, .inl (zc Z 1, (4, .inl sz))), (al, .inl (zc Z 1, (80, .inl ld))), (qb, .inr (12, [.ref vb, .int (nI 0), .int (nI 0), .int (nI 0)])), (vb, .inl (zc Z 0, ((ySay g).length, .inl fb)))] _ _ _ [(13, .ref qb), (12, .int (nI c12)), (11, .int pl), (10, .int (nI t)), (9, .int q), (8, .int (nI T)), (7, .ref al), (6, .ref as), (5, .ref am), (4, .int (nI words)), (3, .ref ak), (2, .int (nI 1)), (1, .ref (za Z 0)), (0, .ref b)] []
  refine uv_iload O.1 dL_law_366 4 rfl ?_
  refine uv_bipush O.1 dL_law_368 (nI 10) rfl ?_
  refine uv_ishr (z := (q >>> ((nI 10) &&& 31))) O.1 dL_law_370 rfl ?_
  obtain ⟨m, hm, em⟩ : ∃ m, m ≤ 31 ∧ (q >>> (nI 10 &&& 31)) &&& nI 31 = nI m := ⟨_, (y_and _ 31 (by omega)).2, (y_and _ 31 (by omega)).1⟩
  refine uv_bipush O.1 dL_law_371 (nI 31) rfl ?_
  refine uv_iand (z := nI m) O.1 dL_law_373 em ?_
  refine uv_iload O.1 dL_law_374 9 rfl ?_
  refine uv_iconst O.1 dL_law_376 (nI 1) rfl ?_
  refine uv_iaddE (z := nI (words + 1)) O.1 dL_law_377 (zI.1 _ _) ?_
  refine uv_irem (z := nI (m % (words + 1))) O.1 dL_law_378 (show ¬ nI (words + 1) = nI 0 from j_ne (by omega) (by omega) (by omega)) (y_rem.2.2 ⟨m, by omega⟩ ⟨words, by omega⟩) ?_
  refine uv_iconst O.1 dL_law_379 (nI 1) rfl ?_
  have hr : m % (words + 1) < words + 1 := Nat.mod_lt _ (by omega)
  generalize m % (words + 1) = r at hr
  rcases y_mpred ⟨r, by omega⟩ with ⟨-, e1⟩ | ⟨e0, e1⟩
  · refine uv_isub (z := -nI 1) O.1 dL_law_380 e1 ?_
    refine uv_istore O.1 dL_law_381 (by omega) [(14, .int (-nI 1)), (13, .ref qb), (12, .int (nI c12)), (11, .int pl), (10, .int (nI t)), (9, .int q), (8, .int (nI T)), (7, .ref al), (6, .ref as), (5, .ref am), (4, .int (nI words)), (3, .ref ak), (2, .int (nI 1)), (1, .ref (za Z 0)), (0, .ref b)] rfl ?_
    refine uv_iload O.1 dL_law_383 0 rfl ?_
    refine uv_if_ge 392 O.1 dL_law_385 rfl (fun hh => absurd hh (by decide +kernel)) (fun _ => ?_)
    refine uv_iconst O.1 dL_law_388 (nI 0) rfl ?_
    refine uv_goto 396 O.1 dL_law_389 rfl ?_
    refine uv_istore O.1 dL_law_396 (by omega) [(15, .int (nI 0)), (14, .int (-nI 1)), (13, .ref qb), (12, .int (nI c12)), (11, .int pl), (10, .int (nI t)), (9, .int q), (8, .int (nI T)), (7, .ref al), (6, .ref as), (5, .ref am), (4, .int (nI words)), (3, .ref ak), (2, .int (nI 1)), (1, .ref (za Z 0)), (0, .ref b)] rfl ?_
    refine uv_iload O.1 dL_law_398 1 rfl ?_
    refine uv_if_lt 457 O.1 dL_law_400 rfl (fun _ => ?_) (fun hh => absurd (by decide +kernel) hh)
    refine uv_iconst O.1 dL_law_457 (nI 1) rfl ?_
    refine uv_goto 462 O.1 dL_law_458 rfl ?_
    refine uv_sub [1, 2, 3, 4, 5, 6, 7, 8, 9, 10, 11, 12, 13, 14, 15] rfl ?_
    exact w_lays2 O hXs hN h25 hef h34 hk0 hn0 hI hfit ht (un := true) (Or.inl ⟨rfl, rfl⟩) kk
  · dsimp only at e0 e1
    generalize hwn : r - 1 = wn at e1
    have hwn : wn < words := by omega
    have hwn2 : wn < znW g := by rw [hW]; exact hwn
    have w0 := (hB.1.2.2.1 wn hwn2).1
    have ek : kd wn = nI (ix (g (zwa wn))) := (hI.2.2.2.2.1 wn hwn).symm.trans w0.1
    have ho := w0.2
    have hun : ∀ k5, k5 ≤ 5 → md t = nI k5 → ∀ un, un = zund (ix (g (zwa wn))) k5 → un = yun (g (zwa wn)) (md t) := fun k5 h5 e un hu => by rw [e, yun, zi_ix (by omega)]; exact hu
    generalize hoe : ix (g (zwa wn)) = o at ek ho hun
    refine uv_isub (z := nI wn) O.1 dL_law_380 e1 ?_
    refine uv_istore O.1 dL_law_381 (by omega) [(14, .int (nI wn)), (13, .ref qb), (12, .int (nI c12)), (11, .int pl), (10, .int (nI t)), (9, .int q), (8, .int (nI T)), (7, .ref al), (6, .ref as), (5, .ref am), (4, .int (nI words)), (3, .ref ak), (2, .int (nI 1)), (1, .ref (za Z 0)), (0, .ref b)] rfl ?_
    refine uv_iload O.1 dL_law_383 0 rfl ?_
    refine uv_if_ge 392 O.1 dL_law_385 rfl (fun _ => ?_) (fun hh => absurd (show (0 : Int32) ≤ nI wn from nI_pos' (by omega)) hh)
    refine uv_aload_n O.1 dL_law_392 11 rfl rfl ?_
    refine uv_iload O.1 dL_law_393 0 rfl ?_
    refine ue_ild (j := 0) (w := wn) O dL_law_395 rfl rfl (by omega) (by omega) ek ?_
    refine uv_istore O.1 dL_law_396 (by omega) [(15, .int (nI o)), (14, .int (nI wn)), (13, .ref qb), (12, .int (nI c12)), (11, .int pl), (10, .int (nI t)), (9, .int q), (8, .int (nI T)), (7, .ref al), (6, .ref as), (5, .ref am), (4, .int (nI words)), (3, .ref ak), (2, .int (nI 1)), (1, .ref (za Z 0)), (0, .ref b)] rfl ?_
    refine uv_iload O.1 dL_law_398 1 rfl ?_
    refine uv_if_lt 457 O.1 dL_law_400 rfl (fun hh => absurd hh (j_nn (by omega))) (fun _ => ?_)
    have J462 : ∀ un : Bool, (¬ md t = -nI 1 → un = yun (g (zwa wn)) (md t)) → uE Z C σ [(ak, .inl (zc Z 1, (20, .inl kd))), (am, .inl (zc Z 1, (4, .inl md))), (as, .inl (zc Z 1, (4, .inl sz))), (al, .inl (zc Z 1, (80, .inl ld))), (qb, .inr (12, [.ref vb, .int (nI 0), .int (nI 0), .int (nI 0)])), (vb, .inl (zc Z 0, ((ySay g).length, .inl fb)))] k0 n0 462 [(15, .int (nI o)), (14, .int (nI wn)), (13, .ref qb), (12, .int (nI c12)), (11, .int pl), (10, .int (nI t)), (9, .int q), (8, .int (nI T)), (7, .ref al), (6, .ref as), (5, .ref am), (4, .int (nI words)), (3, .ref ak), (2, .int (nI 1)), (1, .ref (za Z 0)), (0, .ref b)] [.int (nI (y01 un))] := by
      intro un hu
      refine uv_sub [1, 2, 3, 4, 5, 6, 7, 8, 9, 10, 11, 12, 13, 14, 15] rfl ?_
      exact w_lays2 O hXs hN h25 hef h34 hk0 hn0 hI hfit ht (un := un) (Or.inr ⟨wn, hwn, rfl, hu⟩) kk
    rcases hI.2.2.2.2.2 t ht with ⟨hm, -⟩ | ⟨k5, n, hk5, hn, hm, -⟩
    · refine uv_aload O.1 dL_law_403 10 rfl ?_
      refine uv_iload O.1 dL_law_405 5 rfl ?_
      refine ue_ild (j := 1) (w := t) O dL_law_407 rfl rfl ht (by omega) hm ?_
      refine uv_eqF 457 O.1 dL_law_408 rfl (by decide +kernel) ?_
      refine uv_aload O.1 dL_law_411 10 rfl ?_
      refine uv_iload O.1 dL_law_413 5 rfl ?_
      refine ue_ild (j := 1) (w := t) O dL_law_415 rfl rfl ht (by omega) hm ?_
      refine uv_iload O.1 dL_law_416 0 rfl ?_
      refine uv_icmp_eq 457 O.1 dL_law_418 rfl (fun hh => absurd hh (fun h => yn1 (show o < 1000 by omega) h.symm)) (fun _ => ?_)
      refine uv_aload O.1 dL_law_421 10 rfl ?_
      refine uv_iload O.1 dL_law_423 5 rfl ?_
      refine ue_ild (j := 1) (w := t) O dL_law_425 rfl rfl ht (by omega) hm ?_
      refine uv_iconst O.1 dL_law_426 (nI 1) rfl ?_
      refine uv_icmp_ne 442 O.1 dL_law_427 rfl (fun _ => ?_) (fun hh => absurd hh (by decide +kernel))
      refine uv_aload O.1 dL_law_442 10 rfl ?_
      refine uv_iload O.1 dL_law_444 5 rfl ?_
      refine ue_ild (j := 1) (w := t) O dL_law_446 rfl rfl ht (by omega) hm ?_
      refine uv_iconst O.1 dL_law_447 (nI 2) rfl ?_
      refine uv_icmp_ne 461 O.1 dL_law_448 rfl (fun _ => ?_) (fun hh => absurd hh (by decide +kernel))
      refine uv_iconst O.1 dL_law_461 (nI 0) rfl ?_
      exact J462 false (fun q => absurd hm q)
    · refine uv_aload O.1 dL_law_403 10 rfl ?_
      refine uv_iload O.1 dL_law_405 5 rfl ?_
      refine ue_ild (j := 1) (w := t) O dL_law_407 rfl rfl ht (by omega) hm ?_
      refine uv_if_eq 457 O.1 dL_law_408 rfl (fun h1 => ?_) (fun h1 => ?_)
      · have h1 : nI k5 = nI 0 := h1
        simp (disch := omega) only [zLT, zC] at h1
        refine uv_iconst O.1 dL_law_457 (nI 1) rfl ?_
        refine uv_goto 462 O.1 dL_law_458 rfl ?_
        exact J462 true (fun _ => hun k5 hk5 hm _ (y_unT (by omega)))
      · have h1 : ¬ nI k5 = nI 0 := h1
        simp (disch := omega) only [zLT, zC] at h1
        refine uv_aload O.1 dL_law_411 10 rfl ?_
        refine uv_iload O.1 dL_law_413 5 rfl ?_
        refine ue_ild (j := 1) (w := t) O dL_law_415 rfl rfl ht (by omega) hm ?_
        refine uv_iload O.1 dL_law_416 0 rfl ?_
        refine uv_icmp_eq 457 O.1 dL_law_418 rfl (fun h2 => ?_) (fun h2 => ?_)
        · simp (disch := omega) only [zLT, zC] at h2
          refine uv_iconst O.1 dL_law_457 (nI 1) rfl ?_
          refine uv_goto 462 O.1 dL_law_458 rfl ?_
          exact J462 true (fun _ => hun k5 hk5 hm _ (y_unT (by omega)))
        · simp (disch := omega) only [zLT, zC] at h2
          refine uv_aload O.1 dL_law_421 10 rfl ?_
          refine uv_iload O.1 dL_law_423 5 rfl ?_
          refine ue_ild (j := 1) (w := t) O dL_law_425 rfl rfl ht (by omega) hm ?_
          refine uv_iconst O.1 dL_law_426 (nI 1) rfl ?_
          refine uv_icmp_ne 442 O.1 dL_law_427 rfl (fun h3 => ?_) (fun h3 => ?_)
          · simp (disch := omega) only [zLT, zC] at h3
            refine uv_aload O.1 dL_law_442 10 rfl ?_
            refine uv_iload O.1 dL_law_444 5 rfl ?_
            refine ue_ild (j := 1) (w := t) O dL_law_446 rfl rfl ht (by omega) hm ?_
            refine uv_iconst O.1 dL_law_447 (nI 2) rfl ?_
            refine uv_icmp_ne 461 O.1 dL_law_448 rfl (fun h6 => ?_) (fun h6 => ?_)
            · simp (disch := omega) only [zLT, zC] at h6
              refine uv_iconst O.1 dL_law_461 (nI 0) rfl ?_
              exact J462 false (fun _ => hun k5 hk5 hm _ (y_unF (by omega)))
            · simp (disch := omega) only [zLT, zC] at h6
              refine uv_iload O.1 dL_law_451 0 rfl ?_
              refine uv_iconst O.1 dL_law_453 (nI 5) rfl ?_
              refine uv_icmp_ne 461 O.1 dL_law_454 rfl (fun h7 => ?_) (fun h7 => ?_)
              · simp (disch := omega) only [zLT, zC] at h7
                refine uv_iconst O.1 dL_law_461 (nI 0) rfl ?_
                exact J462 false (fun _ => hun k5 hk5 hm _ (y_unF (by omega)))
              · simp (disch := omega) only [zLT, zC] at h7
                refine uv_iconst O.1 dL_law_457 (nI 1) rfl ?_
                refine uv_goto 462 O.1 dL_law_458 rfl ?_
                exact J462 true (fun _ => hun k5 hk5 hm _ (y_unT (by omega)))
          · simp (disch := omega) only [zLT, zC] at h3
            refine uv_iload O.1 dL_law_430 0 rfl ?_
            refine uv_iconst O.1 dL_law_432 (nI 3) rfl ?_
            refine uv_icmp_eq 457 O.1 dL_law_433 rfl (fun h4 => ?_) (fun h4 => ?_)
            · simp (disch := omega) only [zLT, zC] at h4
              refine uv_iconst O.1 dL_law_457 (nI 1) rfl ?_
              refine uv_goto 462 O.1 dL_law_458 rfl ?_
              exact J462 true (fun _ => hun k5 hk5 hm _ (y_unT (by omega)))
            · simp (disch := omega) only [zLT, zC] at h4
              refine uv_iload O.1 dL_law_436 0 rfl ?_
              refine uv_iconst O.1 dL_law_438 (nI 4) rfl ?_
              refine uv_icmp_eq 457 O.1 dL_law_439 rfl (fun h5 => ?_) (fun h5 => ?_)
              · simp (disch := omega) only [zLT, zC] at h5
                refine uv_iconst O.1 dL_law_457 (nI 1) rfl ?_
                refine uv_goto 462 O.1 dL_law_458 rfl ?_
                exact J462 true (fun _ => hun k5 hk5 hm _ (y_unT (by omega)))
              · simp (disch := omega) only [zLT, zC] at h5
                refine uv_aload O.1 dL_law_442 10 rfl ?_
                refine uv_iload O.1 dL_law_444 5 rfl ?_
                refine ue_ild (j := 1) (w := t) O dL_law_446 rfl rfl ht (by omega) hm ?_
                refine uv_iconst O.1 dL_law_447 (nI 2) rfl ?_
                refine uv_icmp_ne 461 O.1 dL_law_448 rfl (fun h6 => ?_) (fun h6 => ?_)
                · simp (disch := omega) only [zLT, zC] at h6
                  refine uv_iconst O.1 dL_law_461 (nI 0) rfl ?_
                  exact J462 false (fun _ => hun k5 hk5 hm _ (y_unF (by omega)))
                · simp (disch := omega) only [zLT, zC] at h6
                  refine uv_iload O.1 dL_law_451 0 rfl ?_
                  refine uv_iconst O.1 dL_law_453 (nI 5) rfl ?_
                  refine uv_icmp_ne 461 O.1 dL_law_454 rfl (fun h7 => ?_) (fun h7 => ?_)
                  · simp (disch := omega) only [zLT, zC] at h7
                    refine uv_iconst O.1 dL_law_461 (nI 0) rfl ?_
                    exact J462 false (fun _ => hun k5 hk5 hm _ (y_unF (by omega)))
                  · simp (disch := omega) only [zLT, zC] at h7
                    refine uv_iconst O.1 dL_law_457 (nI 1) rfl ?_
                    refine uv_goto 462 O.1 dL_law_458 rfl ?_
                    exact J462 true (fun _ => hun k5 hk5 hm _ (y_unT (by omega)))
