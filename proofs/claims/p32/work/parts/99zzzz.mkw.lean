abbrev mk10_0 (a : Nat) : va_W := [(a, .inr (10, [.int 0, .null, .int 0, .int 0, .int 0]))]
abbrev mk10_1 (Z : ZT) (a w q1 q2 : Nat) : va_W := [(a, .inr (10, [.int (nI w), .ref q1, .int 0, .int 0, .int 0])), (q1, .inr (5, [.ref q2, .int 0])), (q2, .inl (zc Z 0, (6, .inl (fun _ => 0))))]
set_option maxHeartbeats 4000000 in
theorem mk10 (Z : ZT) (a w sz : Nat) : MkC Z yX10_init cX10_init 2 3 2 8 100 [.ref a, .int (nI w)] (mk10_0 a) (fun u : Nat × Nat => mk10_1 Z a w u.1 u.2) sz := by
  refine uv_mk (by decide) (Nat.le_of_ble_eq_true rfl) (fun C O hm fin => ?_)
  have O : uOk Z C RX10 cX10_init 2 3 100 2 8 := O
  have hm : (c_h C).name = "<init>" := hm
  refine uv_eq (ws' := [(a, .inr (10, [.int 0, .null, .int 0, .int 0, .int 0]))]) rfl ?_
  show uV Z C _ 0 0 0 [(0, .ref a), (1, .int (nI w))] []
  refine uv_aload_n O dX10_init_0 0 rfl rfl ?_
  refine uv_obj O dX10_init_1 (uq_in (by decide +kernel) (by decide +kernel)) (uq_in (by decide +kernel) (by decide +kernel)) (uq_in (by decide +kernel) (by decide +kernel)) (Nat.le_of_ble_eq_true rfl) (Nat.le_of_ble_eq_true rfl) (Nat.le_of_ble_eq_true rfl) ?_
  refine uv_aload_n O dX10_init_4 0 rfl rfl ?_
  refine uv_new (Cn := RX5) (T := TX5) (N := 2) (ci := 5) (fs := [.null, .int 0]) O dX10_init_5 tyX5 tyX5_ok ux_5 (uq_in (by decide +kernel) (by decide +kernel)) (uq_in (by decide +kernel) (by decide +kernel)) (uq_in (by decide +kernel) (by decide +kernel)) rfl (fun j hj => by rcases (show j = 0 ∨ j = 1 by omega) with rfl | rfl <;> rfl) (Nat.le_of_ble_eq_true rfl) (Nat.le_of_ble_eq_true rfl) (fun q1 => ?_)
  refine uv_dup O dX10_init_8 rfl ?_
  refine uv_bipush O dX10_init_9 (nI 6) rfl ?_
  refine uv_call (y := yX5_init) (ccY := cX5_init) (maxL := 2) (as := [.int (nI 6)]) (rest := [.ref q1, .ref a]) (W1 := fun u : Nat => mk5_1 Z q1 6 u) O (fun sz => mk5 Z q1 6 sz (by omega)) rfl (Or.inl ⟨dX10_init_11, (Or.inl (uq_in (by decide +kernel) (by decide +kernel))), rfl⟩) (uq_in (by decide +kernel) (by decide +kernel)) (uq_in (by decide +kernel) (by decide +kernel)) (uq_in (by decide +kernel) (by decide +kernel)) (by decide +kernel) ⟨(Nat.le_of_ble_eq_true rfl), (Nat.le_of_ble_eq_true rfl)⟩ (Nat.le_of_ble_eq_true rfl) (Nat.le_of_ble_eq_true rfl) (Nat.le_of_ble_eq_true rfl) (fun q2 => ?_)
  refine uv_eq (ws' := [(a, .inr (10, [.int 0, .null, .int 0, .int 0, .int 0])), (q1, .inr (5, [.ref q2, .int 0])), (q2, .inl (zc Z 0, (6, .inl (fun _ => 0))))]) rfl ?_
  refine uv_putF O hm dX10_init_14 0 rfl rfl ux_10 tyX10 tyX10_ok nmX10 1 (Nat.le_of_ble_eq_true rfl) (uq_in (by decide +kernel) (by decide +kernel)) rfl rfl rfl rfl rfl (Nat.le_of_ble_eq_true rfl) ?_
  refine uv_eq (ws' := [(a, .inr (10, [.int 0, .ref q1, .int 0, .int 0, .int 0])), (q1, .inr (5, [.ref q2, .int 0])), (q2, .inl (zc Z 0, (6, .inl (fun _ => 0))))]) rfl ?_
  refine uv_aload_n O dX10_init_17 0 rfl rfl ?_
  refine uv_iload_n O dX10_init_18 1 rfl rfl ?_
  refine uv_putF O hm dX10_init_19 0 rfl rfl ux_10 tyX10 tyX10_ok nmX10 0 (Nat.le_of_ble_eq_true rfl) (uq_in (by decide +kernel) (by decide +kernel)) rfl rfl rfl rfl rfl (Nat.le_of_ble_eq_true rfl) ?_
  refine uv_eq (ws' := [(a, .inr (10, [.int (nI w), .ref q1, .int 0, .int 0, .int 0])), (q1, .inr (5, [.ref q2, .int 0])), (q2, .inl (zc Z 0, (6, .inl (fun _ => 0))))]) rfl ?_
  refine uv_widen (k' := 2) (n' := 8) (Nat.le_of_ble_eq_true rfl) (Nat.le_of_ble_eq_true rfl) ?_
  exact fin (q1, q2) _ _ dX10_init_22
