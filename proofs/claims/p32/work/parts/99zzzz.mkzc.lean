/-- where a Book's cells lie: eight of its own; words, endings, ends, frames -/
abbrev S0 : Type := (Nat × Nat × Nat × Nat × Nat × Nat × Nat × Nat) × (Nat → Nat) × (Nat → Nat) × (Nat → Nat) × (Nat → Nat)
abbrev mk0_0 (a : Nat) : va_W := [(a, .inr (0, [.null, .int 0, .null, .null, .null, .int 0, .null, .null]))]
abbrev mk0_T (Z : ZT) (qw qe qg qf : Nat → Nat) : va_W := (((([] ++ uT (bW Z) 3 qw 20) ++ uT (bE Z) 2 qe 32) ++ uT (bG Z) 2 qg 3) ++ uT (bF Z) 6 qf 5)
abbrev mk0_1 (Z : ZT) (a : Nat) (u : S0) : va_W := bkX Z a u.1.1 u.1.2.1 u.1.2.2.1 u.1.2.2.2.1 u.1.2.2.2.2.1 u.1.2.2.2.2.2.1 u.1.2.2.2.2.2.2.1 u.1.2.2.2.2.2.2.2 (uA 3 u.2.1 20) (uA 2 u.2.2.1 32) (uA 2 u.2.2.2.1 3) (uA 6 u.2.2.2.2 5) ++ mk0_T Z u.2.1 u.2.2.1 u.2.2.2.1 u.2.2.2.2
set_option maxHeartbeats 4000000 in
theorem mk0 (Z : ZT) (a sz : Nat) : MkC Z yX0_init cX0_init 2 4 168 716 150 [.ref a] (mk0_0 a) (fun u : S0 => mk0_1 Z a u) sz := by
  refine uv_mk (by decide) (Nat.le_of_ble_eq_true rfl) (fun C O hm fin => ?_)
  have O : uOk Z C RX0 cX0_init 2 4 150 168 716 := O
  have hm : (c_h C).name = "<init>" := hm
  refine uv_eq (ws' := [(a, .inr (0, [.null, .int 0, .null, .null, .null, .int 0, .null, .null]))]) rfl ?_
  show uV Z C _ 0 0 0 [(0, .ref a)] []
  refine uv_aload_n O dX0_init_0 0 rfl rfl ?_
  refine uv_obj O dX0_init_1 (uq_in (by decide +kernel) (by decide +kernel)) (uq_in (by decide +kernel) (by decide +kernel)) (uq_in (by decide +kernel) (by decide +kernel)) (Nat.le_of_ble_eq_true rfl) (Nat.le_of_ble_eq_true rfl) (Nat.le_of_ble_eq_true rfl) ?_
  refine uv_aload_n O dX0_init_4 0 rfl rfl ?_
  refine uv_bipush O dX0_init_5 (nI 20) rfl ?_
  refine uv_newq (t := 6) (Cn := RX10) (c0 := zc Z 6) O dX0_init_7 (uq_in (by decide +kernel) (by decide +kernel)) (by decide +kernel) rfl rfl (Nat.le_of_ble_eq_true rfl) (Nat.le_of_ble_eq_true rfl) (Nat.le_of_ble_eq_true rfl) (fun q1 => ?_)
  refine uv_putF O hm dX0_init_10 0 rfl rfl ux_0 tyX0 tyX0_ok nmX0 0 (Nat.le_of_ble_eq_true rfl) (uq_in (by decide +kernel) (by decide +kernel)) rfl rfl rfl rfl rfl (Nat.le_of_ble_eq_true rfl) ?_
  refine uv_eq (ws' := [(a, .inr (0, [.ref q1, .int 0, .null, .null, .null, .int 0, .null, .null])), (q1, .inl (zc Z 6, (20, .inr (.inr (.inr (.inr (fun _ => none)))))))]) rfl ?_
  refine uv_aload_n O dX0_init_13 0 rfl rfl ?_
  refine uv_bipush O dX0_init_14 (nI 32) rfl ?_
  refine uv_newq (t := 3) (Cn := RX5) (c0 := zc Z 3) O dX0_init_16 (uq_in (by decide +kernel) (by decide +kernel)) (by decide +kernel) rfl rfl (Nat.le_of_ble_eq_true rfl) (Nat.le_of_ble_eq_true rfl) (Nat.le_of_ble_eq_true rfl) (fun q2 => ?_)
  refine uv_putF O hm dX0_init_19 0 rfl rfl ux_0 tyX0 tyX0_ok nmX0 2 (Nat.le_of_ble_eq_true rfl) (uq_in (by decide +kernel) (by decide +kernel)) rfl rfl rfl rfl rfl (Nat.le_of_ble_eq_true rfl) ?_
  refine uv_eq (ws' := [(a, .inr (0, [.ref q1, .int 0, .ref q2, .null, .null, .int 0, .null, .null])), (q1, .inl (zc Z 6, (20, .inr (.inr (.inr (.inr (fun _ => none))))))), (q2, .inl (zc Z 3, (32, .inr (.inr (.inr (.inr (fun _ => none)))))))]) rfl ?_
  refine uv_aload_n O dX0_init_22 0 rfl rfl ?_
  refine uv_iconst O dX0_init_23 (nI 3) rfl ?_
  refine uv_newq (t := 7) (Cn := RX5) (c0 := zc Z 7) O dX0_init_24 (uq_in (by decide +kernel) (by decide +kernel)) (by decide +kernel) rfl rfl (Nat.le_of_ble_eq_true rfl) (Nat.le_of_ble_eq_true rfl) (Nat.le_of_ble_eq_true rfl) (fun q3 => ?_)
  refine uv_putF O hm dX0_init_27 0 rfl rfl ux_0 tyX0 tyX0_ok nmX0 3 (Nat.le_of_ble_eq_true rfl) (uq_in (by decide +kernel) (by decide +kernel)) rfl rfl rfl rfl rfl (Nat.le_of_ble_eq_true rfl) ?_
  refine uv_eq (ws' := [(a, .inr (0, [.ref q1, .int 0, .ref q2, .ref q3, .null, .int 0, .null, .null])), (q1, .inl (zc Z 6, (20, .inr (.inr (.inr (.inr (fun _ => none))))))), (q2, .inl (zc Z 3, (32, .inr (.inr (.inr (.inr (fun _ => none))))))), (q3, .inl (zc Z 7, (3, .inr (.inr (.inr (.inr (fun _ => none)))))))]) rfl ?_
  refine uv_aload_n O dX0_init_30 0 rfl rfl ?_
  refine uv_iconst O dX0_init_31 (nI 5) rfl ?_
  refine uv_newq (t := 2) (Cn := RX3) (c0 := zc Z 2) O dX0_init_32 (uq_in (by decide +kernel) (by decide +kernel)) (by decide +kernel) rfl rfl (Nat.le_of_ble_eq_true rfl) (Nat.le_of_ble_eq_true rfl) (Nat.le_of_ble_eq_true rfl) (fun q4 => ?_)
  refine uv_putF O hm dX0_init_35 0 rfl rfl ux_0 tyX0 tyX0_ok nmX0 4 (Nat.le_of_ble_eq_true rfl) (uq_in (by decide +kernel) (by decide +kernel)) rfl rfl rfl rfl rfl (Nat.le_of_ble_eq_true rfl) ?_
  refine uv_eq (ws' := [(a, .inr (0, [.ref q1, .int 0, .ref q2, .ref q3, .ref q4, .int 0, .null, .null])), (q1, .inl (zc Z 6, (20, .inr (.inr (.inr (.inr (fun _ => none))))))), (q2, .inl (zc Z 3, (32, .inr (.inr (.inr (.inr (fun _ => none))))))), (q3, .inl (zc Z 7, (3, .inr (.inr (.inr (.inr (fun _ => none))))))), (q4, .inl (zc Z 2, (5, .inr (.inr (.inr (.inr (fun _ => none)))))))]) rfl ?_
  refine uv_aload_n O dX0_init_38 0 rfl rfl ?_
  refine uv_new (Cn := RX5) (T := TX5) (N := 2) (ci := 5) (fs := [.null, .int 0]) O dX0_init_39 tyX5 tyX5_ok ux_5 (uq_in (by decide +kernel) (by decide +kernel)) (uq_in (by decide +kernel) (by decide +kernel)) (uq_in (by decide +kernel) (by decide +kernel)) rfl (fun j hj => by rcases (show j = 0 ∨ j = 1 by omega) with rfl | rfl <;> rfl) (Nat.le_of_ble_eq_true rfl) (Nat.le_of_ble_eq_true rfl) (fun q5 => ?_)
  refine uv_dup O dX0_init_42 rfl ?_
  refine uv_bipush O dX0_init_43 (nI 50) rfl ?_
  refine uv_call (y := yX5_init) (ccY := cX5_init) (maxL := 2) (as := [.int (nI 50)]) (rest := [.ref q5, .ref a]) (W1 := fun u : Nat => mk5_1 Z q5 50 u) O (fun sz => mk5 Z q5 50 sz (by omega)) rfl (Or.inl ⟨dX0_init_45, (Or.inl (uq_in (by decide +kernel) (by decide +kernel))), rfl⟩) (uq_in (by decide +kernel) (by decide +kernel)) (uq_in (by decide +kernel) (by decide +kernel)) (uq_in (by decide +kernel) (by decide +kernel)) (by decide +kernel) ⟨(Nat.le_of_ble_eq_true rfl), (Nat.le_of_ble_eq_true rfl)⟩ (Nat.le_of_ble_eq_true rfl) (Nat.le_of_ble_eq_true rfl) (Nat.le_of_ble_eq_true rfl) (fun q6 => ?_)
  refine uv_eq (ws' := [(a, .inr (0, [.ref q1, .int 0, .ref q2, .ref q3, .ref q4, .int 0, .null, .null])), (q1, .inl (zc Z 6, (20, .inr (.inr (.inr (.inr (fun _ => none))))))), (q2, .inl (zc Z 3, (32, .inr (.inr (.inr (.inr (fun _ => none))))))), (q3, .inl (zc Z 7, (3, .inr (.inr (.inr (.inr (fun _ => none))))))), (q4, .inl (zc Z 2, (5, .inr (.inr (.inr (.inr (fun _ => none))))))), (q5, .inr (5, [.ref q6, .int 0])), (q6, .inl (zc Z 0, (50, .inl (fun _ => 0))))]) rfl ?_
  refine uv_putF O hm dX0_init_48 0 rfl rfl ux_0 tyX0 tyX0_ok nmX0 6 (Nat.le_of_ble_eq_true rfl) (uq_in (by decide +kernel) (by decide +kernel)) rfl rfl rfl rfl rfl (Nat.le_of_ble_eq_true rfl) ?_
  refine uv_eq (ws' := [(a, .inr (0, [.ref q1, .int 0, .ref q2, .ref q3, .ref q4, .int 0, .ref q5, .null])), (q1, .inl (zc Z 6, (20, .inr (.inr (.inr (.inr (fun _ => none))))))), (q2, .inl (zc Z 3, (32, .inr (.inr (.inr (.inr (fun _ => none))))))), (q3, .inl (zc Z 7, (3, .inr (.inr (.inr (.inr (fun _ => none))))))), (q4, .inl (zc Z 2, (5, .inr (.inr (.inr (.inr (fun _ => none))))))), (q5, .inr (5, [.ref q6, .int 0])), (q6, .inl (zc Z 0, (50, .inl (fun _ => 0))))]) rfl ?_
  refine uv_aload_n O dX0_init_51 0 rfl rfl ?_
  refine uv_new (Cn := RX2) (T := TX2) (N := 4) (ci := 2) (fs := [.int 0, .int 0, .int 0, .null]) O dX0_init_52 tyX2 tyX2_ok ux_2 (uq_in (by decide +kernel) (by decide +kernel)) (uq_in (by decide +kernel) (by decide +kernel)) (uq_in (by decide +kernel) (by decide +kernel)) rfl (fun j hj => by rcases (show j = 0 ∨ j = 1 ∨ j = 2 ∨ j = 3 by omega) with rfl | rfl | rfl | rfl <;> rfl) (Nat.le_of_ble_eq_true rfl) (Nat.le_of_ble_eq_true rfl) (fun q7 => ?_)
  refine uv_dup O dX0_init_55 rfl ?_
  refine uv_call (y := yX2_init) (ccY := cX2_init) (maxL := 1) (as := []) (rest := [.ref q7, .ref a]) (W1 := fun u : Nat => mk2_1 Z q7 u) O (fun sz => mk2 Z q7 sz) rfl (Or.inl ⟨dX0_init_56, (Or.inr ⟨"PhraseMoods", (nq_in (by decide +kernel) (by decide +kernel))⟩), rfl⟩) (uq_in (by decide +kernel) (by decide +kernel)) (uq_in (by decide +kernel) (by decide +kernel)) (uq_in (by decide +kernel) (by decide +kernel)) (by decide +kernel) ⟨(Nat.le_of_ble_eq_true rfl), (Nat.le_of_ble_eq_true rfl)⟩ (Nat.le_of_ble_eq_true rfl) (Nat.le_of_ble_eq_true rfl) (Nat.le_of_ble_eq_true rfl) (fun q8 => ?_)
  refine uv_eq (ws' := [(a, .inr (0, [.ref q1, .int 0, .ref q2, .ref q3, .ref q4, .int 0, .ref q5, .null])), (q1, .inl (zc Z 6, (20, .inr (.inr (.inr (.inr (fun _ => none))))))), (q2, .inl (zc Z 3, (32, .inr (.inr (.inr (.inr (fun _ => none))))))), (q3, .inl (zc Z 7, (3, .inr (.inr (.inr (.inr (fun _ => none))))))), (q4, .inl (zc Z 2, (5, .inr (.inr (.inr (.inr (fun _ => none))))))), (q5, .inr (5, [.ref q6, .int 0])), (q6, .inl (zc Z 0, (50, .inl (fun _ => 0)))), (q7, .inr (2, [.int (-nI 1), .int 0, .int 0, .ref q8])), (q8, .inl (zc Z 1, (6, .inl (fun _ => 0))))]) rfl ?_
  refine uv_putF O hm dX0_init_59 0 rfl rfl ux_0 tyX0 tyX0_ok nmX0 7 (Nat.le_of_ble_eq_true rfl) (uq_in (by decide +kernel) (by decide +kernel)) rfl rfl rfl rfl rfl (Nat.le_of_ble_eq_true rfl) ?_
  refine uv_eq (ws' := [(a, .inr (0, [.ref q1, .int 0, .ref q2, .ref q3, .ref q4, .int 0, .ref q5, .ref q7])), (q1, .inl (zc Z 6, (20, .inr (.inr (.inr (.inr (fun _ => none))))))), (q2, .inl (zc Z 3, (32, .inr (.inr (.inr (.inr (fun _ => none))))))), (q3, .inl (zc Z 7, (3, .inr (.inr (.inr (.inr (fun _ => none))))))), (q4, .inl (zc Z 2, (5, .inr (.inr (.inr (.inr (fun _ => none))))))), (q5, .inr (5, [.ref q6, .int 0])), (q6, .inl (zc Z 0, (50, .inl (fun _ => 0)))), (q7, .inr (2, [.int (-nI 1), .int 0, .int 0, .ref q8])), (q8, .inl (zc Z 1, (6, .inl (fun _ => 0))))]) rfl ?_
  refine uv_iconst O dX0_init_62 (nI 0) rfl ?_
  refine uv_istore_n O dX0_init_63 rfl (by omega) [(1, .int (nI 0)), (0, .ref a)] rfl ?_
  refine uv_widen (k' := 8) (n' := 122) (Nat.le_of_ble_eq_true rfl) (Nat.le_of_ble_eq_true rfl) ?_
  refine uv_eq (ws' := bkX Z a q1 q2 q3 q4 q5 q6 q7 q8 (uA 3 (fun _ => 0) 0) (fun _ => none) (fun _ => none) (fun _ => none) ++ ([] ++ uT (bW Z) 3 (fun _ => 0) 0)) (by rw [uA_zero, show uT (bW Z) 3 (fun _ => 0) 0 = [] from rfl, List.append_nil]; rfl) ?_
  refine mk0_w O a q1 q2 q3 q4 q5 q6 q7 q8 (fun _ => none) (fun _ => none) (fun _ => none) [] (fun qw => ?_) 21 0 (fun _ => 0) (by omega) (by omega)
  refine uv_iconst O dX0_init_93 (nI 0) rfl ?_
  refine uv_istore_n O dX0_init_94 rfl (by omega) [(1, .int (nI 0)), (0, .ref a)] rfl ?_
  refine uv_eq (ws' := bkX Z a q1 q2 q3 q4 q5 q6 q7 q8 (uA 3 qw 20) (uA 2 (fun _ => 0) 0) (fun _ => none) (fun _ => none) ++ (([] ++ uT (bW Z) 3 qw 20) ++ uT (bE Z) 2 (fun _ => 0) 0)) (by rw [uA_zero, show uT (bE Z) 2 (fun _ => 0) 0 = [] from rfl, List.append_nil]) ?_
  refine mk0_e O a q1 q2 q3 q4 q5 q6 q7 q8 (uA 3 qw 20) (fun _ => none) (fun _ => none) ([] ++ uT (bW Z) 3 qw 20) (fun qe => ?_) 33 0 (fun _ => 0) (by omega) (by omega)
  refine uv_iconst O dX0_init_124 (nI 0) rfl ?_
  refine uv_istore_n O dX0_init_125 rfl (by omega) [(1, .int (nI 0)), (0, .ref a)] rfl ?_
  refine uv_eq (ws' := bkX Z a q1 q2 q3 q4 q5 q6 q7 q8 (uA 3 qw 20) (uA 2 qe 32) (uA 2 (fun _ => 0) 0) (fun _ => none) ++ ((([] ++ uT (bW Z) 3 qw 20) ++ uT (bE Z) 2 qe 32) ++ uT (bG Z) 2 (fun _ => 0) 0)) (by rw [uA_zero, show uT (bG Z) 2 (fun _ => 0) 0 = [] from rfl, List.append_nil]) ?_
  refine mk0_g O a q1 q2 q3 q4 q5 q6 q7 q8 (uA 3 qw 20) (uA 2 qe 32) (fun _ => none) (([] ++ uT (bW Z) 3 qw 20) ++ uT (bE Z) 2 qe 32) (fun qg => ?_) 4 0 (fun _ => 0) (by omega) (by omega)
  refine uv_iconst O dX0_init_185 (nI 0) rfl ?_
  refine uv_istore_n O dX0_init_186 rfl (by omega) [(1, .int (nI 0)), (0, .ref a)] rfl ?_
  refine uv_eq (ws' := bkX Z a q1 q2 q3 q4 q5 q6 q7 q8 (uA 3 qw 20) (uA 2 qe 32) (uA 2 qg 3) (uA 6 (fun _ => 0) 0) ++ (((([] ++ uT (bW Z) 3 qw 20) ++ uT (bE Z) 2 qe 32) ++ uT (bG Z) 2 qg 3) ++ uT (bF Z) 6 (fun _ => 0) 0)) (by rw [uA_zero, show uT (bF Z) 6 (fun _ => 0) 0 = [] from rfl, List.append_nil]) ?_
  refine mk0_f O a q1 q2 q3 q4 q5 q6 q7 q8 (uA 3 qw 20) (uA 2 qe 32) (uA 2 qg 3) ((([] ++ uT (bW Z) 3 qw 20) ++ uT (bE Z) 2 qe 32) ++ uT (bG Z) 2 qg 3) (fun qf => ?_) 6 0 (fun _ => 0) (by omega) (by omega)
  exact fin ((q1, q2, q3, q4, q5, q6, q7, q8), qw, qe, qg, qf) _ _ dX0_init_215
