theorem yu_self {f : Nat → Int32} {t o : Nat} : upd f t (f o) o = f o := by
  unfold upd
  split <;> rfl
set_option maxHeartbeats 4000000 in
theorem w_like {Z : ZT} {C : CX} {b N k25 v25 k34 v34 : Nat} {xs ef : Nat → Int32} (O : jOk Z C RL cL_law 19 13 494 600000 7302249) (hXs : jXs b N xs (c_A C) (c_s C) (c_s C).heap) (hN : N ≤ 600) (h25 : jK 25 "" k25 v25 0 ef (c_A C) (c_s C) (c_s C).heap) (hef : jF ef) (h34 : jK 34 "aeobtkle" k34 v34 8 (fun k => zsg (yal.getD k 0)) (c_A C) (c_s C) (c_s C).heap) {k0 n0 T t c12 words al as am ak qb vb : Nat} {q pl : Int32} {σ : Mem} {g kd md sz ld fb : Nat → Int32} (hk0 : k0 ≤ 300000) (hn0 : n0 ≤ 3000000) (hI : yI σ g kd md sz ld words) (hfit : hFit σ) (ht : t < 4)  (kk : ∀ (σ2 : Mem) (g2 kd2 md2 sz2 ld2 : Nat → Int32) (w2 : Nat), yI σ2 g2 kd2 md2 sz2 ld2 w2 → ySay g2 = ySay g → hFit σ2 → uE Z C σ2 [(ak, .inl (zc Z 1, (20, .inl kd2))), (am, .inl (zc Z 1, (4, .inl md2))), (as, .inl (zc Z 1, (4, .inl sz2))), (al, .inl (zc Z 1, (80, .inl ld2))), (qb, .inr (12, [.ref vb, .int (nI 0), .int (nI 0), .int (nI 0)])), (vb, .inl (zc Z 0, ((ySay g).length, .inl fb)))] (k0 + 24) (n0 + 1576) 1377 [(13, .ref qb), (10, .int (nI t)), (8, .int (nI T)), (7, .ref al), (6, .ref as), (5, .ref am), (4, .int (nI w2)), (3, .ref ak), (2, .int (nI 1)), (1, .ref (za Z 0)), (0, .ref b)] []) : uE Z C σ [(ak, .inl (zc Z 1, (20, .inl kd))), (am, .inl (zc Z 1, (4, .inl md))), (as, .inl (zc Z 1, (4, .inl sz))), (al, .inl (zc Z 1, (80, .inl ld))), (qb, .inr (12, [.ref vb, .int (nI 0), .int (nI 0), .int (nI 0)])), (vb, .inl (zc Z 0, ((ySay g).length, .inl fb)))] k0 n0 642 [(13, .ref qb), (12, .int (nI c12)), (11, .int pl), (10, .int (nI t)), (9, .int q), (8, .int (nI T)), (7, .ref al), (6, .ref as), (5, .ref am), (4, .int (nI words)), (3, .ref ak), (2, .int (nI 1)), (1, .ref (za Z 0)), (0, .ref b)] [] := by
  have hB := hI.1; have hG := hI.2.1; have hz := hI.2.2.1; have hW : znW g = words := hI.2.2.2.1; have h6 : 6 ≤ words := (hW ▸ hG.2.2.2.2.2.2.2 : 6 ≤ words); have h20 : words ≤ 20 := (hW ▸ hB.1.1.2 : words ≤ 20)
  show uE Z C σ [(ak, .inl (zc Z 1, (20, .inl kd))), (am, .inl (zc Z 1, (4, .inl md))), (as, .inl (zc Z 1, (4, .inl sz))), (al, .inl (zc Z 1, (80, .inl ld))), (qb, .inr (12, [.ref vb, .int (nI 0), .int (nI 0), .int (nI 0)])), (vb, .inl (zc Z 0, ((ySay g).length, .inl fb)))] _ _ _ [(13, .ref qb), (12, .int (nI c12)), (11, .int pl), (10, .int (nI t)), (9, .int q), (8, .int (nI T)), (7, .ref al), (6, .ref as), (5, .ref am), (4, .int (nI words)), (3, .ref ak), (2, .int (nI 1)), (1, .ref (za Z 0)), (0, .ref b)] []
  refine uv_iload O.1 dL_law_642 4 rfl ?_
  refine uv_bipush O.1 dL_law_644 (nI 10) rfl ?_
  refine uv_ishr (z := (q >>> ((nI 10) &&& 31))) O.1 dL_law_646 rfl ?_
  obtain ⟨o, ho, eo⟩ : ∃ o, o ≤ 3 ∧ (q >>> (nI 10 &&& 31)) &&& nI 3 = nI o := ⟨_, (y_and _ 3 (by omega)).2, (y_and _ 3 (by omega)).1⟩
  refine uv_iconst O.1 dL_law_647 (nI 3) rfl ?_
  refine uv_iand (z := nI o) O.1 dL_law_648 eo ?_
  refine uv_istore O.1 dL_law_649 (by omega) [(14, .int (nI o)), (13, .ref qb), (12, .int (nI c12)), (11, .int pl), (10, .int (nI t)), (9, .int q), (8, .int (nI T)), (7, .ref al), (6, .ref as), (5, .ref am), (4, .int (nI words)), (3, .ref ak), (2, .int (nI 1)), (1, .ref (za Z 0)), (0, .ref b)] rfl ?_
  refine uv_iload_n O.1 dL_law_651 12 rfl rfl ?_
  refine uv_aload_n O.1 dL_law_652 13 rfl rfl ?_
  refine uv_iload O.1 dL_law_653 4 rfl ?_
  refine uv_iload O.1 dL_law_655 0 rfl ?_
  rcases y_like (t := t) (o := o) hI.2.2.2.2.2 ht (by omega) with ⟨hm, u1⟩ | ⟨n, τ, hn, hsz, hm, u1, u2, u3⟩
  · refine ue_ctV (as := [.int (nI t), .int (nI o)]) (rest := [.int (nI 1)]) O hfit dL_law_657 (fun Z2 hZ2 => ct_X11_like hZ2 rfl u1) vx_RL_93 rfl rfl rfl ⟨(Nat.le_of_ble_eq_true rfl), (Nat.le_of_ble_eq_true rfl)⟩ (Nat.le_of_ble_eq_true rfl) (by omega) (by omega) (fun _ hfit => ?_)
    show uE Z C σ [(ak, .inl (zc Z 1, (20, .inl kd))), (am, .inl (zc Z 1, (4, .inl md))), (as, .inl (zc Z 1, (4, .inl sz))), (al, .inl (zc Z 1, (80, .inl ld))), (qb, .inr (12, [.ref vb, .int (nI 0), .int (nI 0), .int (nI 0)])), (vb, .inl (zc Z 0, ((ySay g).length, .inl fb)))] _ _ _ [(14, .int (nI o)), (13, .ref qb), (12, .int (nI c12)), (11, .int pl), (10, .int (nI t)), (9, .int q), (8, .int (nI T)), (7, .ref al), (6, .ref as), (5, .ref am), (4, .int (nI words)), (3, .ref ak), (2, .int (nI 1)), (1, .ref (za Z 0)), (0, .ref b)] [.int (-nI 11), .int (nI 1)]
    refine uv_aload O.1 dL_law_660 9 rfl ?_
    refine uv_iload O.1 dL_law_662 0 rfl ?_
    refine ue_ild (j := 1) (w := o) O dL_law_664 rfl rfl (by omega) (by omega) hm ?_
    refine uv_if_ge 673 O.1 dL_law_665 rfl (fun hh => absurd hh (by decide +kernel)) (fun _ => ?_)
    refine uv_bipush O.1 dL_law_668 (-nI 11) rfl ?_
    refine uv_goto 678 O.1 dL_law_670 rfl ?_
    refine uv_icmp_ne 685 O.1 dL_law_678 rfl (fun hh => absurd rfl hh) (fun _ => ?_)
    refine uv_iconst O.1 dL_law_681 (nI 1) rfl ?_
    refine uv_goto 686 O.1 dL_law_682 rfl ?_
    refine uv_iand (z := nI 1) O.1 dL_law_686 (by decide +kernel) ?_
    refine uv_istore_n O.1 dL_law_687 rfl (by omega) [(2, .int (nI 1)), (14, .int (nI o)), (13, .ref qb), (12, .int (nI c12)), (11, .int pl), (10, .int (nI t)), (9, .int q), (8, .int (nI T)), (7, .ref al), (6, .ref as), (5, .ref am), (4, .int (nI words)), (3, .ref ak), (1, .ref (za Z 0)), (0, .ref b)] rfl ?_
    refine uv_aload O.1 dL_law_688 10 rfl ?_
    refine uv_iload O.1 dL_law_690 1 rfl ?_
    refine ue_ild (j := 1) (w := o) O dL_law_692 rfl rfl (by omega) (by omega) hm ?_
    refine uv_if_lt 757 O.1 dL_law_693 rfl (fun _ => ?_) (fun hh => absurd (by decide +kernel) hh)
    refine uv_goto 1377 O.1 dL_law_757 rfl ?_
    refine uv_sub [2, 5, 7, 8, 9, 10, 11, 12, 0, 13, 14] rfl ?_
    refine uv_widen (k' := k0 + 24) (n' := n0 + 1576) (by omega) (by omega) ?_
    exact kk σ g kd md sz ld words hI rfl hfit
  · refine ue_ctV (as := [.int (nI t), .int (nI o)]) (rest := [.int (nI 1)]) O hfit dL_law_657 (fun Z2 hZ2 => ct_X11_like hZ2 rfl u1) vx_RL_93 rfl rfl rfl ⟨(Nat.le_of_ble_eq_true rfl), (Nat.le_of_ble_eq_true rfl)⟩ (Nat.le_of_ble_eq_true rfl) (by omega) (by omega) (fun _ hfit => ?_)
    show uE Z C τ [(ak, .inl (zc Z 1, (20, .inl kd))), (am, .inl (zc Z 1, (4, .inl md))), (as, .inl (zc Z 1, (4, .inl sz))), (al, .inl (zc Z 1, (80, .inl ld))), (qb, .inr (12, [.ref vb, .int (nI 0), .int (nI 0), .int (nI 0)])), (vb, .inl (zc Z 0, ((ySay g).length, .inl fb)))] _ _ _ [(14, .int (nI o)), (13, .ref qb), (12, .int (nI c12)), (11, .int pl), (10, .int (nI t)), (9, .int q), (8, .int (nI T)), (7, .ref al), (6, .ref as), (5, .ref am), (4, .int (nI words)), (3, .ref ak), (2, .int (nI 1)), (1, .ref (za Z 0)), (0, .ref b)] [.int (nI n), .int (nI 1)]
    refine uv_aload O.1 dL_law_660 9 rfl ?_
    refine uv_iload O.1 dL_law_662 0 rfl ?_
    refine ue_ild (j := 1) (w := o) O dL_law_664 rfl rfl (by omega) (by omega) rfl ?_
    refine uv_if_ge 673 O.1 dL_law_665 rfl (fun _ => ?_) (fun hh => absurd (Int32.not_lt.mp hm) hh)
    refine uv_aload O.1 dL_law_673 8 rfl ?_
    refine uv_iload O.1 dL_law_675 0 rfl ?_
    refine ue_ild (j := 2) (w := o) O dL_law_677 rfl rfl (by omega) (by omega) hsz ?_
    refine uv_icmp_ne 685 O.1 dL_law_678 rfl (fun hh => absurd rfl hh) (fun _ => ?_)
    refine uv_iconst O.1 dL_law_681 (nI 1) rfl ?_
    refine uv_goto 686 O.1 dL_law_682 rfl ?_
    refine uv_iand (z := nI 1) O.1 dL_law_686 (by decide +kernel) ?_
    refine uv_istore_n O.1 dL_law_687 rfl (by omega) [(2, .int (nI 1)), (14, .int (nI o)), (13, .ref qb), (12, .int (nI c12)), (11, .int pl), (10, .int (nI t)), (9, .int q), (8, .int (nI T)), (7, .ref al), (6, .ref as), (5, .ref am), (4, .int (nI words)), (3, .ref ak), (1, .ref (za Z 0)), (0, .ref b)] rfl ?_
    refine uv_aload O.1 dL_law_688 10 rfl ?_
    refine uv_iload O.1 dL_law_690 1 rfl ?_
    refine ue_ild (j := 1) (w := o) O dL_law_692 rfl rfl (by omega) (by omega) rfl ?_
    refine uv_if_lt 757 O.1 dL_law_693 rfl (fun hh => absurd hh hm) (fun _ => ?_)
    refine uv_aload O.1 dL_law_696 10 rfl ?_
    refine uv_iload O.1 dL_law_698 5 rfl ?_
    refine uv_aload O.1 dL_law_700 10 rfl ?_
    refine uv_iload O.1 dL_law_702 1 rfl ?_
    refine ue_ild (j := 1) (w := o) O dL_law_704 rfl rfl (by omega) (by omega) rfl ?_
    refine ue_ist (j := 1) (w := t) (E' := [(ak, .inl (zc Z 1, (20, .inl kd))), (am, .inl (zc Z 1, (4, .inl (upd md t (md o))))), (as, .inl (zc Z 1, (4, .inl sz))), (al, .inl (zc Z 1, (80, .inl ld))), (qb, .inr (12, [.ref vb, .int (nI 0), .int (nI 0), .int (nI 0)])), (vb, .inl (zc Z 0, ((ySay g).length, .inl fb)))]) O dL_law_705 rfl rfl ht (by omega) rfl ?_
    refine uv_aload O.1 dL_law_706 9 rfl ?_
    refine uv_iload O.1 dL_law_708 5 rfl ?_
    refine uv_aload O.1 dL_law_710 9 rfl ?_
    refine uv_iload O.1 dL_law_712 1 rfl ?_
    refine ue_ild (j := 2) (w := o) O dL_law_714 rfl rfl (by omega) (by omega) rfl ?_
    refine ue_ist (j := 2) (w := t) (E' := [(ak, .inl (zc Z 1, (20, .inl kd))), (am, .inl (zc Z 1, (4, .inl (upd md t (md o))))), (as, .inl (zc Z 1, (4, .inl (upd sz t (sz o))))), (al, .inl (zc Z 1, (80, .inl ld))), (qb, .inr (12, [.ref vb, .int (nI 0), .int (nI 0), .int (nI 0)])), (vb, .inl (zc Z 0, ((ySay g).length, .inl fb)))]) O dL_law_715 rfl rfl ht (by omega) rfl ?_
    refine uv_iconst O.1 dL_law_716 (nI 0) rfl ?_
    refine uv_istore O.1 dL_law_717 (by omega) [(15, .int (nI 0)), (2, .int (nI 1)), (14, .int (nI o)), (13, .ref qb), (12, .int (nI c12)), (11, .int pl), (10, .int (nI t)), (9, .int q), (8, .int (nI T)), (7, .ref al), (6, .ref as), (5, .ref am), (4, .int (nI words)), (3, .ref ak), (1, .ref (za Z 0)), (0, .ref b)] rfl ?_
    have loop : ∀ (d i : Nat) (ld2 : Nat → Int32), i + d = n → (∀ k, k < i → ld2 (20 * t + k) = ld (20 * o + k)) → (∀ k, ¬ (20 * t ≤ k ∧ k < 20 * t + i) → ld2 k = ld k) → uE Z C τ [(ak, .inl (zc Z 1, (20, .inl kd))), (am, .inl (zc Z 1, (4, .inl (upd md t (md o))))), (as, .inl (zc Z 1, (4, .inl (upd sz t (sz o))))), (al, .inl (zc Z 1, (80, .inl ld2))), (qb, .inr (12, [.ref vb, .int (nI 0), .int (nI 0), .int (nI 0)])), (vb, .inl (zc Z 0, ((ySay g).length, .inl fb)))] k0 n0 719 [(15, .int (nI i)), (2, .int (nI 1)), (14, .int (nI o)), (13, .ref qb), (12, .int (nI c12)), (11, .int pl), (10, .int (nI t)), (9, .int q), (8, .int (nI T)), (7, .ref al), (6, .ref as), (5, .ref am), (4, .int (nI words)), (3, .ref ak), (1, .ref (za Z 0)), (0, .ref b)] [] := by
      intro d
      induction d with
      | zero =>
        intro i ld2 hi l1 l2
        have : i = n := by omega
        subst this
        refine uv_iload O.1 dL_law_719 0 rfl ?_
        refine uv_aload O.1 dL_law_721 10 rfl ?_
        refine uv_iload O.1 dL_law_723 2 rfl ?_
        refine ue_ild (j := 2) (w := o) O dL_law_725 rfl rfl (by omega) (by omega) (yu_self.trans hsz) ?_
        refine uv_icmp_ge 757 O.1 dL_law_726 rfl (fun _ => ?_) (fun hh => absurd (Int32.le_refl _) hh)
        refine uv_goto 1377 O.1 dL_law_757 rfl ?_
        refine uv_sub [3, 6, 8, 9, 10, 11, 12, 13, 1, 14, 15] rfl ?_
        refine uv_widen (k' := k0 + 24) (n' := n0 + 1576) (by omega) (by omega) ?_
        exact kk τ g kd _ _ ld2 words (yI_tr hI u3 (u2 ld2 l1 l2)) rfl hfit
      | succ d ih =>
        intro i ld2 hi l1 l2
        refine uv_iload O.1 dL_law_719 0 rfl ?_
        refine uv_aload O.1 dL_law_721 10 rfl ?_
        refine uv_iload O.1 dL_law_723 2 rfl ?_
        refine ue_ild (j := 2) (w := o) O dL_law_725 rfl rfl (by omega) (by omega) (yu_self.trans hsz) ?_
        refine uv_icmp_ge 757 O.1 dL_law_726 rfl (fun hh => absurd hh (j_nle (by omega) (by omega))) (fun _ => ?_)
        have hsrc : ld2 (20 * o + i) = ld (20 * o + i) := l2 _ (by omega)
        refine uv_aload O.1 dL_law_729 9 rfl ?_
        refine uv_bipush O.1 dL_law_731 (nI 20) rfl ?_
        refine uv_iload O.1 dL_law_733 6 rfl ?_
        refine uv_imul (z := nI (20 * t)) O.1 dL_law_735 (y_20t ⟨t, ht⟩) ?_
        refine uv_iload O.1 dL_law_736 0 rfl ?_
        refine uv_iaddE (z := nI (20 * t + i)) O.1 dL_law_738 (zI.1 _ _) ?_
        refine uv_aload O.1 dL_law_739 9 rfl ?_
        refine uv_bipush O.1 dL_law_741 (nI 20) rfl ?_
        refine uv_iload O.1 dL_law_743 2 rfl ?_
        refine uv_imul (z := nI (20 * o)) O.1 dL_law_745 (y_20t ⟨o, (by omega)⟩) ?_
        refine uv_iload O.1 dL_law_746 0 rfl ?_
        refine uv_iaddE (z := nI (20 * o + i)) O.1 dL_law_748 (zI.1 _ _) ?_
        refine ue_ild (j := 3) (w := (20 * o + i)) O dL_law_749 rfl rfl (by omega) (by omega) hsrc ?_
        refine ue_ist (j := 3) (w := (20 * t + i)) (E' := [(ak, .inl (zc Z 1, (20, .inl kd))), (am, .inl (zc Z 1, (4, .inl (upd md t (md o))))), (as, .inl (zc Z 1, (4, .inl (upd sz t (sz o))))), (al, .inl (zc Z 1, (80, .inl (upd ld2 (20 * t + i) (ld (20 * o + i)))))), (qb, .inr (12, [.ref vb, .int (nI 0), .int (nI 0), .int (nI 0)])), (vb, .inl (zc Z 0, ((ySay g).length, .inl fb)))]) O dL_law_750 rfl rfl (by omega) (by omega) rfl ?_
        refine uv_iinc (z := 1) (v := nI (i + 1)) O.1 dL_law_751 0 rfl (zI.1 _ _) (by omega) [(15, .int (nI (i + 1))), (2, .int (nI 1)), (14, .int (nI o)), (13, .ref qb), (12, .int (nI c12)), (11, .int pl), (10, .int (nI t)), (9, .int q), (8, .int (nI T)), (7, .ref al), (6, .ref as), (5, .ref am), (4, .int (nI words)), (3, .ref ak), (1, .ref (za Z 0)), (0, .ref b)] rfl ?_
        refine uv_goto 719 O.1 dL_law_754 rfl ?_
        refine uv_sub [0, 1, 2, 3, 4, 5, 6, 7, 8, 9, 10, 11, 12, 13, 14, 15] rfl ?_
        refine ih (i + 1) _ (by omega) (fun k hk => ?_) (fun k hk => ?_)
        · by_cases e : k = i
          · rw [e]; exact yu_eq
          · rw [yu_ne (by omega)]; exact l1 k (by omega)
        · rw [yu_ne (by omega)]; exact l2 k (by omega)
    refine uv_sub [0, 1, 2, 3, 4, 5, 6, 7, 8, 9, 10, 11, 12, 13, 14, 15] rfl ?_
    exact loop n 0 ld (by omega) (fun k hk => absurd hk (by omega)) (fun _ _ => rfl)
set_option maxHeartbeats 4000000 in
theorem w_word {Z : ZT} {C : CX} {b N k25 v25 k34 v34 : Nat} {xs ef : Nat → Int32} (O : jOk Z C RL cL_law 19 13 494 600000 7302249) (hXs : jXs b N xs (c_A C) (c_s C) (c_s C).heap) (hN : N ≤ 600) (h25 : jK 25 "" k25 v25 0 ef (c_A C) (c_s C) (c_s C).heap) (hef : jF ef) (h34 : jK 34 "aeobtkle" k34 v34 8 (fun k => zsg (yal.getD k 0)) (c_A C) (c_s C) (c_s C).heap) {k0 n0 T t c12 words al as am ak qb vb : Nat} {q pl : Int32} {σ : Mem} {g kd md sz ld fb : Nat → Int32} (hk0 : k0 ≤ 300000) (hn0 : n0 ≤ 3000000) (hI : yI σ g kd md sz ld words) (hfit : hFit σ) (ht : t < 4) (hw20 : words < 20) (kk : ∀ (σ2 : Mem) (g2 kd2 md2 sz2 ld2 : Nat → Int32) (w2 : Nat), yI σ2 g2 kd2 md2 sz2 ld2 w2 → ySay g2 = ySay g → hFit σ2 → uE Z C σ2 [(ak, .inl (zc Z 1, (20, .inl kd2))), (am, .inl (zc Z 1, (4, .inl md2))), (as, .inl (zc Z 1, (4, .inl sz2))), (al, .inl (zc Z 1, (80, .inl ld2))), (qb, .inr (12, [.ref vb, .int (nI 0), .int (nI 0), .int (nI 0)])), (vb, .inl (zc Z 0, ((ySay g).length, .inl fb)))] (k0 + 24) (n0 + 1576) 1377 [(13, .ref qb), (10, .int (nI t)), (8, .int (nI T)), (7, .ref al), (6, .ref as), (5, .ref am), (4, .int (nI w2)), (3, .ref ak), (2, .int (nI 1)), (1, .ref (za Z 0)), (0, .ref b)] []) : uE Z C σ [(ak, .inl (zc Z 1, (20, .inl kd))), (am, .inl (zc Z 1, (4, .inl md))), (as, .inl (zc Z 1, (4, .inl sz))), (al, .inl (zc Z 1, (80, .inl ld))), (qb, .inr (12, [.ref vb, .int (nI 0), .int (nI 0), .int (nI 0)])), (vb, .inl (zc Z 0, ((ySay g).length, .inl fb)))] k0 n0 773 [(13, .ref qb), (12, .int (nI c12)), (11, .int pl), (10, .int (nI t)), (9, .int q), (8, .int (nI T)), (7, .ref al), (6, .ref as), (5, .ref am), (4, .int (nI words)), (3, .ref ak), (2, .int (nI 1)), (1, .ref (za Z 0)), (0, .ref b)] [] := by
  have hB := hI.1; have hG := hI.2.1; have hz := hI.2.2.1; have hW : znW g = words := hI.2.2.2.1; have h6 : 6 ≤ words := (hW ▸ hG.2.2.2.2.2.2.2 : 6 ≤ words); have h20 : words ≤ 20 := (hW ▸ hB.1.1.2 : words ≤ 20)
  show uE Z C σ [(ak, .inl (zc Z 1, (20, .inl kd))), (am, .inl (zc Z 1, (4, .inl md))), (as, .inl (zc Z 1, (4, .inl sz))), (al, .inl (zc Z 1, (80, .inl ld))), (qb, .inr (12, [.ref vb, .int (nI 0), .int (nI 0), .int (nI 0)])), (vb, .inl (zc Z 0, ((ySay g).length, .inl fb)))] _ _ _ [(13, .ref qb), (12, .int (nI c12)), (11, .int pl), (10, .int (nI t)), (9, .int q), (8, .int (nI T)), (7, .ref al), (6, .ref as), (5, .ref am), (4, .int (nI words)), (3, .ref ak), (2, .int (nI 1)), (1, .ref (za Z 0)), (0, .ref b)] []
  refine uv_iload O.1 dL_law_773 4 rfl ?_
  refine uv_bipush O.1 dL_law_775 (nI 10) rfl ?_
  refine uv_ishr (z := (q >>> ((nI 10) &&& 31))) O.1 dL_law_777 rfl ?_
  obtain ⟨m, hm, em⟩ : ∃ m, m ≤ 7 ∧ (q >>> (nI 10 &&& 31)) &&& nI 7 = nI m := ⟨_, (y_and _ 7 (by omega)).2, (y_and _ 7 (by omega)).1⟩
  refine uv_bipush O.1 dL_law_778 (nI 7) rfl ?_
  refine uv_iand (z := nI m) O.1 dL_law_780 em ?_
  refine uv_bipush O.1 dL_law_781 (nI 6) rfl ?_
  refine uv_irem (z := nI (m % 6)) O.1 dL_law_783 (by decide +kernel) (y_rem.1 ⟨m, by omega⟩).1 ?_
  refine uv_istore O.1 dL_law_784 (by omega) [(14, .int (nI (m % 6))), (13, .ref qb), (12, .int (nI c12)), (11, .int pl), (10, .int (nI t)), (9, .int q), (8, .int (nI T)), (7, .ref al), (6, .ref as), (5, .ref am), (4, .int (nI words)), (3, .ref ak), (2, .int (nI 1)), (1, .ref (za Z 0)), (0, .ref b)] rfl ?_
  refine uv_iload_n O.1 dL_law_786 12 rfl rfl ?_
  refine uv_aload_n O.1 dL_law_787 13 rfl rfl ?_
  refine uv_iload O.1 dL_law_788 5 rfl ?_
  refine uv_bipush O.1 dL_law_790 (nI 13) rfl ?_
  refine uv_ishr (z := (q >>> ((nI 13) &&& 31))) O.1 dL_law_792 rfl ?_
  refine uv_iconst O.1 dL_law_793 (nI 2) rfl ?_
  refine ue_call (E1 := [(ak, .inl (zc Z 1, (20, .inl kd))), (am, .inl (zc Z 1, (4, .inl md))), (as, .inl (zc Z 1, (4, .inl sz))), (al, .inl (zc Z 1, (80, .inl ld))), (qb, .inr (12, [.ref vb, .int (nI 0), .int (nI 0), .int (nI 0)])), (vb, .inl (zc Z 0, ((ySay g).length, .inl fb)))]) (wc := []) (rest := [.ref (za Z 0), .int (nI 1)]) O (jc_S (as := [.int (q >>> (nI 13 &&& 31)), .int (nI 2)]) (rest := [.ref (za Z 0), .int (nI 1)]) O.1 dL_law_794 (uq_in (by decide +kernel) (by decide +kernel)) (uq_in (by decide +kernel) (by decide +kernel)) (uq_in (by decide +kernel) (by decide +kernel)) (uq_in (by decide +kernel) (by decide +kernel)) ⟨by decide +kernel, by decide +kernel, (by decide +kernel : (parseMethodDescriptor yL_some.desc).map (fun d => d.parameters.length) = some 2)⟩ rfl ⟨(Nat.le_of_ble_eq_true rfl), (Nat.le_of_ble_eq_true rfl)⟩ (Nat.le_of_ble_eq_true rfl)) (fun sz => l_some Z k25 v25 k34 v34 2 ef (q >>> (nI 13 &&& 31)) sz (by omega) (by omega) hef) (jAnd_mv (jK_mv _ _ _ _ _ _) (jK_mv _ _ _ _ _ _)) (jt_up O.1 (jAnd_mv (jK_mv _ _ _ _ _ _) (jK_mv _ _ _ _ _ _)) ⟨h25, h34⟩) j_r0 rfl (by omega) (by omega) (fun u hu => ?_)
  obtain ⟨q1, v1, f1⟩ := u
  try dsimp only at hu
  obtain ⟨hs1, hs2⟩ := hu
  show uE Z C σ [(ak, .inl (zc Z 1, (20, .inl kd))), (am, .inl (zc Z 1, (4, .inl md))), (as, .inl (zc Z 1, (4, .inl sz))), (al, .inl (zc Z 1, (80, .inl ld))), (qb, .inr (12, [.ref vb, .int (nI 0), .int (nI 0), .int (nI 0)])), (vb, .inl (zc Z 0, ((ySay g).length, .inl fb))), (q1, .inr (12, [.ref v1, .int (nI 0), .int (nI 0), .int (nI 0)])), (v1, .inl (zc Z 0, (2, .inl f1)))] _ _ _ [(14, .int (nI (m % 6))), (13, .ref qb), (12, .int (nI c12)), (11, .int pl), (10, .int (nI t)), (9, .int q), (8, .int (nI T)), (7, .ref al), (6, .ref as), (5, .ref am), (4, .int (nI words)), (3, .ref ak), (2, .int (nI 1)), (1, .ref (za Z 0)), (0, .ref b)] [.ref q1, .ref (za Z 0), .int (nI 1)]
  obtain ⟨l1, l2, l3⟩ := yAl_map (m := 2) (ysm_ok (q >>> (nI 13 &&& 31)))
  generalize hl : (List.range 2).map (ysm (q >>> (nI 13 &&& 31))) = l at l1 l2 l3
  have hs1' : ∀ k, k < l.length → f1 k = zsg (l.getD k 0) := fun k hk => by rw [l1] at hk; rw [l2 k hk]; exact hs1 k hk
  have hb : ∀ k, k < l.length → l.getD k 0 < 256 := fun k hk => by rw [l1] at hk; rw [l2 k hk]; have := ysm_ok (q >>> (nI 13 &&& 31)) k; omega
  refine uv_eq (ws' := wlB Z σ ++ [(ak, .inl (zc Z 1, (20, .inl kd))), (am, .inl (zc Z 1, (4, .inl md))), (as, .inl (zc Z 1, (4, .inl sz))), (al, .inl (zc Z 1, (80, .inl ld))), (qb, .inr (12, [.ref vb, .int (nI 0), .int (nI 0), .int (nI 0)])), (vb, .inl (zc Z 0, ((ySay g).length, .inl fb))), (q1, .inr (12, [.ref v1, .int (nI 0), .int (nI 0), .int (nI 0)])), (v1, .inl (zc Z 0, (l.length, .inl f1)))]) (by rw [l1]) ?_
  refine ue_callB (rest := [.int (nI 1)]) O (jc_S (as := [.ref (za Z 0), .ref q1]) (rest := [.int (nI 1)]) O.1 dL_law_797 (uq_in (by decide +kernel) (by decide +kernel)) (uq_in (by decide +kernel) (by decide +kernel)) (uq_in (by decide +kernel) (by decide +kernel)) (uq_in (by decide +kernel) (by decide +kernel)) ⟨by decide +kernel, by decide +kernel, (by decide +kernel : (parseMethodDescriptor yL_types.desc).map (fun d => d.parameters.length) = some 2)⟩ rfl ⟨(Nat.le_of_ble_eq_true rfl), (Nat.le_of_ble_eq_true rfl)⟩ (Nat.le_of_ble_eq_true rfl)) (fun sz => l_types Z q1 v1 f1 l σ sz (by omega) hb hs1' hz hfit) (jS_mv _ _ _ _) (jt_w (i := 6) (j := 7) O.1 rfl rfl) j_r0 (by omega) (by omega) (fun u => u) (fun u => []) (fun u => (List.append_nil _).symm) (fun τ hu => ?_)
  try dsimp only at hu
  obtain ⟨hz, hfit, hfr⟩ := hu
  show uE Z C τ [(ak, .inl (zc Z 1, (20, .inl kd))), (am, .inl (zc Z 1, (4, .inl md))), (as, .inl (zc Z 1, (4, .inl sz))), (al, .inl (zc Z 1, (80, .inl ld))), (qb, .inr (12, [.ref vb, .int (nI 0), .int (nI 0), .int (nI 0)])), (vb, .inl (zc Z 0, ((ySay g).length, .inl fb))), (q1, .inr (12, [.ref v1, .int (nI 0), .int (nI 0), .int (nI 0)])), (v1, .inl (zc Z 0, (l.length, .inl f1)))] _ _ _ [(14, .int (nI (m % 6))), (13, .ref qb), (12, .int (nI c12)), (11, .int pl), (10, .int (nI t)), (9, .int q), (8, .int (nI T)), (7, .ref al), (6, .ref as), (5, .ref am), (4, .int (nI words)), (3, .ref ak), (2, .int (nI 1)), (1, .ref (za Z 0)), (0, .ref b)] [.int (nI 1), .int (nI 1)]
  refine uv_eqF 820 O.1 dL_law_800 rfl (by decide +kernel) ?_
  refine uv_aload_n O.1 dL_law_803 13 rfl rfl ?_
  refine uv_iload O.1 dL_law_804 0 rfl ?_
  refine uv_iconst O.1 dL_law_806 (nI 0) rfl ?_
  refine uv_iconst O.1 dL_law_807 (nI 0) rfl ?_
  obtain ⟨υ, u1, u2, u3, u4⟩ := y_word (yB_co hB (fun x c p q => hfr x c (by omega) (by omega))) (a := m % 6) (b := 0) (c := 0) (l := l) (by omega) (by omega) (by omega) (by omega) hz (by rw [l1]; exact ⟨by omega, by omega, l3⟩) hW (by omega)
  refine ue_ctV (as := [.int (nI (m % 6)), .int (nI 0), .int (nI 0)]) (rest := [.int (nI 1)]) O hfit dL_law_808 (fun Z2 hZ2 => ct_X11_word hZ2 rfl u1) vx_RL_62 rfl rfl rfl ⟨(Nat.le_of_ble_eq_true rfl), (Nat.le_of_ble_eq_true rfl)⟩ (Nat.le_of_ble_eq_true rfl) (by omega) (by omega) (fun _ hfit => ?_)
  show uE Z C υ [(ak, .inl (zc Z 1, (20, .inl kd))), (am, .inl (zc Z 1, (4, .inl md))), (as, .inl (zc Z 1, (4, .inl sz))), (al, .inl (zc Z 1, (80, .inl ld))), (qb, .inr (12, [.ref vb, .int (nI 0), .int (nI 0), .int (nI 0)])), (vb, .inl (zc Z 0, ((ySay g).length, .inl fb))), (q1, .inr (12, [.ref v1, .int (nI 0), .int (nI 0), .int (nI 0)])), (v1, .inl (zc Z 0, (l.length, .inl f1)))] _ _ _ [(14, .int (nI (m % 6))), (13, .ref qb), (12, .int (nI c12)), (11, .int pl), (10, .int (nI t)), (9, .int q), (8, .int (nI T)), (7, .ref al), (6, .ref as), (5, .ref am), (4, .int (nI words)), (3, .ref ak), (2, .int (nI 1)), (1, .ref (za Z 0)), (0, .ref b)] [.int (nI words), .int (nI 1)]
  refine uv_iload O.1 dL_law_811 10 rfl ?_
  refine uv_icmp_ne 820 O.1 dL_law_813 rfl (fun hh => absurd rfl hh) (fun _ => ?_)
  refine uv_iconst O.1 dL_law_816 (nI 1) rfl ?_
  refine uv_goto 821 O.1 dL_law_817 rfl ?_
  refine uv_iand (z := nI 1) O.1 dL_law_821 (by decide +kernel) ?_
  refine uv_istore_n O.1 dL_law_822 rfl (by omega) [(2, .int (nI 1)), (14, .int (nI (m % 6))), (13, .ref qb), (12, .int (nI c12)), (11, .int pl), (10, .int (nI t)), (9, .int q), (8, .int (nI T)), (7, .ref al), (6, .ref as), (5, .ref am), (4, .int (nI words)), (3, .ref ak), (1, .ref (za Z 0)), (0, .ref b)] rfl ?_
  refine uv_aload_n O.1 dL_law_823 12 rfl rfl ?_
  refine uv_iload O.1 dL_law_824 11 rfl ?_
  refine uv_iload O.1 dL_law_826 1 rfl ?_
  refine ue_ist (j := 0) (w := words) (E' := [(ak, .inl (zc Z 1, (20, .inl (upd kd words (nI (m % 6)))))), (am, .inl (zc Z 1, (4, .inl md))), (as, .inl (zc Z 1, (4, .inl sz))), (al, .inl (zc Z 1, (80, .inl ld))), (qb, .inr (12, [.ref vb, .int (nI 0), .int (nI 0), .int (nI 0)])), (vb, .inl (zc Z 0, ((ySay g).length, .inl fb))), (q1, .inr (12, [.ref v1, .int (nI 0), .int (nI 0), .int (nI 0)])), (v1, .inl (zc Z 0, (l.length, .inl f1)))]) O dL_law_828 rfl rfl (by omega) (by omega) rfl ?_
  refine uv_iinc (z := 1) (v := nI (words + 1)) O.1 dL_law_829 11 rfl (zI.1 _ _) (by omega) [(4, .int (nI (words + 1))), (2, .int (nI 1)), (14, .int (nI (m % 6))), (13, .ref qb), (12, .int (nI c12)), (11, .int pl), (10, .int (nI t)), (9, .int q), (8, .int (nI T)), (7, .ref al), (6, .ref as), (5, .ref am), (3, .ref ak), (1, .ref (za Z 0)), (0, .ref b)] rfl ?_
  refine uv_goto 1377 O.1 dL_law_832 rfl ?_
  refine ue_drop (E' := [(ak, .inl (zc Z 1, (20, .inl (upd kd words (nI (m % 6)))))), (am, .inl (zc Z 1, (4, .inl md))), (as, .inl (zc Z 1, (4, .inl sz))), (al, .inl (zc Z 1, (80, .inl ld))), (qb, .inr (12, [.ref vb, .int (nI 0), .int (nI 0), .int (nI 0)])), (vb, .inl (zc Z 0, ((ySay g).length, .inl fb)))]) (List.Sublist.cons₂ _ (List.Sublist.cons₂ _ (List.Sublist.cons₂ _ (List.Sublist.cons₂ _ (List.Sublist.cons₂ _ (List.Sublist.cons₂ _ (List.Sublist.cons _ (List.Sublist.cons _ (List.Sublist.slnil))))))))) ?_
  have hG2 := yG_wd (a := m % 6) (b := 0) (c := 0) (l := l) hG h6 (by omega)
  have hI2 : yI υ (ywd g words (m % 6) 0 0 l) (upd kd words (nI (m % 6))) md sz ld (words + 1) := by
    refine ⟨u2, hG2.1, u3, hG2.2, fun w hw => ?_, yT_co hI.2.2.2.2.2 (fun x c p q => by rw [u4 _ _ (by omega) (by omega) (by omega), hfr _ _ (by omega) (by omega)])⟩
    by_cases e : w = words
    · subst e
      rw [yu_eq]
      unfold ywd zwa
      rw [if_neg (by omega), if_pos rfl]
    · rw [yu_ne e, ywd_o (by unfold zwa; omega) (by unfold zwa; omega)]
      exact hI.2.2.2.2.1 w (by omega)
  refine uv_sub [3, 6, 8, 9, 10, 11, 0, 12, 1, 13, 14] rfl ?_
  refine uv_widen (k' := k0 + 24) (n' := n0 + 1576) (by omega) (by omega) ?_
  exact kk υ _ _ md sz ld (words + 1) hI2 (ySay_wd hB.1 hG.2.2.2.2.2.2.2 h6 (by omega)) hfit
