abbrev mk4_0 (a : Nat) : va_W := [(a, .inr (4, [.null, .int 0]))]
abbrev mk4_1 (Z : ZT) (a q1 q2 q3 q4 q5 q6 : Nat) : va_W := [(a, .inr (4, [.ref q1, .int 0])), (q1, .inr (3, [.int 0, .ref q2, .ref q3, .ref q4, .ref q5, .ref q6])), (q2, .inl (zc Z 1, (6, .inl (fun _ => 0)))), (q3, .inl (zc Z 1, (6, .inl (fun _ => 0)))), (q4, .inl (zc Z 1, (6, .inl (fun _ => 0)))), (q5, .inl (zc Z 1, (6, .inl (fun _ => 0)))), (q6, .inl (zc Z 1, (3, .inl (fun _ => 0))))]
set_option maxHeartbeats 4000000 in
theorem mk4 (Z : ZT) (a sz : Nat) : MkC Z yX4_init cX4_init 1 3 6 33 100 [.ref a] (mk4_0 a) (fun u : Nat × Nat × Nat × Nat × Nat × Nat => mk4_1 Z a u.1 u.2.1 u.2.2.1 u.2.2.2.1 u.2.2.2.2.1 u.2.2.2.2.2) sz := by
  refine uv_mk (by decide) (Nat.le_of_ble_eq_true rfl) (fun C O hm fin => ?_)
  have O : uOk Z C RX4 cX4_init 1 3 100 6 33 := O
  have hm : (c_h C).name = "<init>" := hm
  refine uv_eq (ws' := [(a, .inr (4, [.null, .int 0]))]) rfl ?_
  show uV Z C _ 0 0 0 [(0, .ref a)] []
  refine uv_aload_n O dX4_init_0 0 rfl rfl ?_
  refine uv_obj O dX4_init_1 (uq_in (by decide +kernel) (by decide +kernel)) (uq_in (by decide +kernel) (by decide +kernel)) (uq_in (by decide +kernel) (by decide +kernel)) (Nat.le_of_ble_eq_true rfl) (Nat.le_of_ble_eq_true rfl) (Nat.le_of_ble_eq_true rfl) ?_
  refine uv_aload_n O dX4_init_4 0 rfl rfl ?_
  refine uv_new (Cn := RX3) (T := TX3) (N := 6) (ci := 3) (fs := [.int 0, .null, .null, .null, .null, .null]) O dX4_init_5 tyX3 tyX3_ok ux_3 (uq_in (by decide +kernel) (by decide +kernel)) (uq_in (by decide +kernel) (by decide +kernel)) (uq_in (by decide +kernel) (by decide +kernel)) rfl (fun j hj => by rcases (show j = 0 ∨ j = 1 ∨ j = 2 ∨ j = 3 ∨ j = 4 ∨ j = 5 by omega) with rfl | rfl | rfl | rfl | rfl | rfl <;> rfl) (Nat.le_of_ble_eq_true rfl) (Nat.le_of_ble_eq_true rfl) (fun q1 => ?_)
  refine uv_dup O dX4_init_8 rfl ?_
  refine uv_call (y := yX3_init) (ccY := cX3_init) (maxL := 1) (as := []) (rest := [.ref q1, .ref a]) (W1 := fun u : Nat × Nat × Nat × Nat × Nat => mk3_1 Z q1 u.1 u.2.1 u.2.2.1 u.2.2.2.1 u.2.2.2.2) O (fun sz => mk3 Z q1 sz) rfl (Or.inl ⟨dX4_init_9, (Or.inr ⟨"PhraseMoods", (nq_in (by decide +kernel) (by decide +kernel))⟩), rfl⟩) (uq_in (by decide +kernel) (by decide +kernel)) (uq_in (by decide +kernel) (by decide +kernel)) (uq_in (by decide +kernel) (by decide +kernel)) (by decide +kernel) ⟨(Nat.le_of_ble_eq_true rfl), (Nat.le_of_ble_eq_true rfl)⟩ (Nat.le_of_ble_eq_true rfl) (Nat.le_of_ble_eq_true rfl) (Nat.le_of_ble_eq_true rfl) (fun ⟨q2, q3, q4, q5, q6⟩ => ?_)
  refine uv_eq (ws' := [(a, .inr (4, [.null, .int 0])), (q1, .inr (3, [.int 0, .ref q2, .ref q3, .ref q4, .ref q5, .ref q6])), (q2, .inl (zc Z 1, (6, .inl (fun _ => 0)))), (q3, .inl (zc Z 1, (6, .inl (fun _ => 0)))), (q4, .inl (zc Z 1, (6, .inl (fun _ => 0)))), (q5, .inl (zc Z 1, (6, .inl (fun _ => 0)))), (q6, .inl (zc Z 1, (3, .inl (fun _ => 0))))]) rfl ?_
  refine uv_putF O hm dX4_init_12 0 rfl rfl ux_4 tyX4 tyX4_ok nmX4 0 (Nat.le_of_ble_eq_true rfl) (uq_in (by decide +kernel) (by decide +kernel)) rfl rfl rfl rfl rfl (Nat.le_of_ble_eq_true rfl) ?_
  refine uv_eq (ws' := [(a, .inr (4, [.ref q1, .int 0])), (q1, .inr (3, [.int 0, .ref q2, .ref q3, .ref q4, .ref q5, .ref q6])), (q2, .inl (zc Z 1, (6, .inl (fun _ => 0)))), (q3, .inl (zc Z 1, (6, .inl (fun _ => 0)))), (q4, .inl (zc Z 1, (6, .inl (fun _ => 0)))), (q5, .inl (zc Z 1, (6, .inl (fun _ => 0)))), (q6, .inl (zc Z 1, (3, .inl (fun _ => 0))))]) rfl ?_
  refine uv_widen (k' := 6) (n' := 33) (Nat.le_of_ble_eq_true rfl) (Nat.le_of_ble_eq_true rfl) ?_
  exact fin (q1, q2, q3, q4, q5, q6) _ _ dX4_init_15
abbrev mk1_0 (a : Nat) : va_W := [(a, .inr (1, [.null, .int 0]))]
abbrev mk1_1 (Z : ZT) (a q1 q2 : Nat) : va_W := [(a, .inr (1, [.ref q1, .int 0])), (q1, .inr (2, [.int (-nI 1), .int 0, .int 0, .ref q2])), (q2, .inl (zc Z 1, (6, .inl (fun _ => 0))))]
set_option maxHeartbeats 4000000 in
theorem mk1 (Z : ZT) (a sz : Nat) : MkC Z yX1_init cX1_init 1 3 2 10 100 [.ref a] (mk1_0 a) (fun u : Nat × Nat => mk1_1 Z a u.1 u.2) sz := by
  refine uv_mk (by decide) (Nat.le_of_ble_eq_true rfl) (fun C O hm fin => ?_)
  have O : uOk Z C RX1 cX1_init 1 3 100 2 10 := O
  have hm : (c_h C).name = "<init>" := hm
  refine uv_eq (ws' := [(a, .inr (1, [.null, .int 0]))]) rfl ?_
  show uV Z C _ 0 0 0 [(0, .ref a)] []
  refine uv_aload_n O dX1_init_0 0 rfl rfl ?_
  refine uv_obj O dX1_init_1 (uq_in (by decide +kernel) (by decide +kernel)) (uq_in (by decide +kernel) (by decide +kernel)) (uq_in (by decide +kernel) (by decide +kernel)) (Nat.le_of_ble_eq_true rfl) (Nat.le_of_ble_eq_true rfl) (Nat.le_of_ble_eq_true rfl) ?_
  refine uv_aload_n O dX1_init_4 0 rfl rfl ?_
  refine uv_new (Cn := RX2) (T := TX2) (N := 4) (ci := 2) (fs := [.int 0, .int 0, .int 0, .null]) O dX1_init_5 tyX2 tyX2_ok ux_2 (uq_in (by decide +kernel) (by decide +kernel)) (uq_in (by decide +kernel) (by decide +kernel)) (uq_in (by decide +kernel) (by decide +kernel)) rfl (fun j hj => by rcases (show j = 0 ∨ j = 1 ∨ j = 2 ∨ j = 3 by omega) with rfl | rfl | rfl | rfl <;> rfl) (Nat.le_of_ble_eq_true rfl) (Nat.le_of_ble_eq_true rfl) (fun q1 => ?_)
  refine uv_dup O dX1_init_8 rfl ?_
  refine uv_call (y := yX2_init) (ccY := cX2_init) (maxL := 1) (as := []) (rest := [.ref q1, .ref a]) (W1 := fun u : Nat => mk2_1 Z q1 u) O (fun sz => mk2 Z q1 sz) rfl (Or.inl ⟨dX1_init_9, (Or.inr ⟨"PhraseMoods", (nq_in (by decide +kernel) (by decide +kernel))⟩), rfl⟩) (uq_in (by decide +kernel) (by decide +kernel)) (uq_in (by decide +kernel) (by decide +kernel)) (uq_in (by decide +kernel) (by decide +kernel)) (by decide +kernel) ⟨(Nat.le_of_ble_eq_true rfl), (Nat.le_of_ble_eq_true rfl)⟩ (Nat.le_of_ble_eq_true rfl) (Nat.le_of_ble_eq_true rfl) (Nat.le_of_ble_eq_true rfl) (fun q2 => ?_)
  refine uv_eq (ws' := [(a, .inr (1, [.null, .int 0])), (q1, .inr (2, [.int (-nI 1), .int 0, .int 0, .ref q2])), (q2, .inl (zc Z 1, (6, .inl (fun _ => 0))))]) rfl ?_
  refine uv_putF O hm dX1_init_12 0 rfl rfl ux_1 tyX1 tyX1_ok nmX1 0 (Nat.le_of_ble_eq_true rfl) (uq_in (by decide +kernel) (by decide +kernel)) rfl rfl rfl rfl rfl (Nat.le_of_ble_eq_true rfl) ?_
  refine uv_eq (ws' := [(a, .inr (1, [.ref q1, .int 0])), (q1, .inr (2, [.int (-nI 1), .int 0, .int 0, .ref q2])), (q2, .inl (zc Z 1, (6, .inl (fun _ => 0))))]) rfl ?_
  refine uv_widen (k' := 2) (n' := 10) (Nat.le_of_ble_eq_true rfl) (Nat.le_of_ble_eq_true rfl) ?_
  exact fin (q1, q2) _ _ dX1_init_15
abbrev mk8_0 (a : Nat) : va_W := [(a, .inr (8, [.null, .null, .null, .int 0]))]
abbrev mk8_1 (Z : ZT) (a q1 q2 q3 q4 q5 : Nat) : va_W := [(a, .inr (8, [.ref q1, .ref q3, .ref q5, .int 0])), (q1, .inr (5, [.ref q2, .int 0])), (q2, .inl (zc Z 0, (10, .inl (fun _ => 0)))), (q3, .inr (5, [.ref q4, .int 0])), (q4, .inl (zc Z 0, (66, .inl (fun _ => 0)))), (q5, .inl (zc Z 1, (6, .inl (fun _ => 0))))]
set_option maxHeartbeats 4000000 in
theorem mk8 (Z : ZT) (a sz : Nat) : MkC Z yX8_init cX8_init 1 3 5 86 100 [.ref a] (mk8_0 a) (fun u : Nat × Nat × Nat × Nat × Nat => mk8_1 Z a u.1 u.2.1 u.2.2.1 u.2.2.2.1 u.2.2.2.2) sz := by
  refine uv_mk (by decide) (Nat.le_of_ble_eq_true rfl) (fun C O hm fin => ?_)
  have O : uOk Z C RX8 cX8_init 1 3 100 5 86 := O
  have hm : (c_h C).name = "<init>" := hm
  refine uv_eq (ws' := [(a, .inr (8, [.null, .null, .null, .int 0]))]) rfl ?_
  show uV Z C _ 0 0 0 [(0, .ref a)] []
  refine uv_aload_n O dX8_init_0 0 rfl rfl ?_
  refine uv_obj O dX8_init_1 (uq_in (by decide +kernel) (by decide +kernel)) (uq_in (by decide +kernel) (by decide +kernel)) (uq_in (by decide +kernel) (by decide +kernel)) (Nat.le_of_ble_eq_true rfl) (Nat.le_of_ble_eq_true rfl) (Nat.le_of_ble_eq_true rfl) ?_
  refine uv_aload_n O dX8_init_4 0 rfl rfl ?_
  refine uv_new (Cn := RX5) (T := TX5) (N := 2) (ci := 5) (fs := [.null, .int 0]) O dX8_init_5 tyX5 tyX5_ok ux_5 (uq_in (by decide +kernel) (by decide +kernel)) (uq_in (by decide +kernel) (by decide +kernel)) (uq_in (by decide +kernel) (by decide +kernel)) rfl (fun j hj => by rcases (show j = 0 ∨ j = 1 by omega) with rfl | rfl <;> rfl) (Nat.le_of_ble_eq_true rfl) (Nat.le_of_ble_eq_true rfl) (fun q1 => ?_)
  refine uv_dup O dX8_init_8 rfl ?_
  refine uv_bipush O dX8_init_9 (nI 10) rfl ?_
  refine uv_call (y := yX5_init) (ccY := cX5_init) (maxL := 2) (as := [.int (nI 10)]) (rest := [.ref q1, .ref a]) (W1 := fun u : Nat => mk5_1 Z q1 10 u) O (fun sz => mk5 Z q1 10 sz (by omega)) rfl (Or.inl ⟨dX8_init_11, (Or.inl (uq_in (by decide +kernel) (by decide +kernel))), rfl⟩) (uq_in (by decide +kernel) (by decide +kernel)) (uq_in (by decide +kernel) (by decide +kernel)) (uq_in (by decide +kernel) (by decide +kernel)) (by decide +kernel) ⟨(Nat.le_of_ble_eq_true rfl), (Nat.le_of_ble_eq_true rfl)⟩ (Nat.le_of_ble_eq_true rfl) (Nat.le_of_ble_eq_true rfl) (Nat.le_of_ble_eq_true rfl) (fun q2 => ?_)
  refine uv_eq (ws' := [(a, .inr (8, [.null, .null, .null, .int 0])), (q1, .inr (5, [.ref q2, .int 0])), (q2, .inl (zc Z 0, (10, .inl (fun _ => 0))))]) rfl ?_
  refine uv_putF O hm dX8_init_14 0 rfl rfl ux_8 tyX8 tyX8_ok nmX8 0 (Nat.le_of_ble_eq_true rfl) (uq_in (by decide +kernel) (by decide +kernel)) rfl rfl rfl rfl rfl (Nat.le_of_ble_eq_true rfl) ?_
  refine uv_eq (ws' := [(a, .inr (8, [.ref q1, .null, .null, .int 0])), (q1, .inr (5, [.ref q2, .int 0])), (q2, .inl (zc Z 0, (10, .inl (fun _ => 0))))]) rfl ?_
  refine uv_aload_n O dX8_init_17 0 rfl rfl ?_
  refine uv_new (Cn := RX5) (T := TX5) (N := 2) (ci := 5) (fs := [.null, .int 0]) O dX8_init_18 tyX5 tyX5_ok ux_5 (uq_in (by decide +kernel) (by decide +kernel)) (uq_in (by decide +kernel) (by decide +kernel)) (uq_in (by decide +kernel) (by decide +kernel)) rfl (fun j hj => by rcases (show j = 0 ∨ j = 1 by omega) with rfl | rfl <;> rfl) (Nat.le_of_ble_eq_true rfl) (Nat.le_of_ble_eq_true rfl) (fun q3 => ?_)
  refine uv_dup O dX8_init_21 rfl ?_
  refine uv_bipush O dX8_init_22 (nI 66) rfl ?_
  refine uv_call (y := yX5_init) (ccY := cX5_init) (maxL := 2) (as := [.int (nI 66)]) (rest := [.ref q3, .ref a]) (W1 := fun u : Nat => mk5_1 Z q3 66 u) O (fun sz => mk5 Z q3 66 sz (by omega)) rfl (Or.inl ⟨dX8_init_24, (Or.inl (uq_in (by decide +kernel) (by decide +kernel))), rfl⟩) (uq_in (by decide +kernel) (by decide +kernel)) (uq_in (by decide +kernel) (by decide +kernel)) (uq_in (by decide +kernel) (by decide +kernel)) (by decide +kernel) ⟨(Nat.le_of_ble_eq_true rfl), (Nat.le_of_ble_eq_true rfl)⟩ (Nat.le_of_ble_eq_true rfl) (Nat.le_of_ble_eq_true rfl) (Nat.le_of_ble_eq_true rfl) (fun q4 => ?_)
  refine uv_eq (ws' := [(a, .inr (8, [.ref q1, .null, .null, .int 0])), (q1, .inr (5, [.ref q2, .int 0])), (q2, .inl (zc Z 0, (10, .inl (fun _ => 0)))), (q3, .inr (5, [.ref q4, .int 0])), (q4, .inl (zc Z 0, (66, .inl (fun _ => 0))))]) rfl ?_
  refine uv_putF O hm dX8_init_27 0 rfl rfl ux_8 tyX8 tyX8_ok nmX8 1 (Nat.le_of_ble_eq_true rfl) (uq_in (by decide +kernel) (by decide +kernel)) rfl rfl rfl rfl rfl (Nat.le_of_ble_eq_true rfl) ?_
  refine uv_eq (ws' := [(a, .inr (8, [.ref q1, .ref q3, .null, .int 0])), (q1, .inr (5, [.ref q2, .int 0])), (q2, .inl (zc Z 0, (10, .inl (fun _ => 0)))), (q3, .inr (5, [.ref q4, .int 0])), (q4, .inl (zc Z 0, (66, .inl (fun _ => 0))))]) rfl ?_
  refine uv_aload_n O dX8_init_30 0 rfl rfl ?_
  refine uv_bipush O dX8_init_31 (nI 6) rfl ?_
  refine uv_newi O dX8_init_33 (uq_in (by decide +kernel) (by decide +kernel)) rfl (Nat.le_of_ble_eq_true rfl) (Nat.le_of_ble_eq_true rfl) (Nat.le_of_ble_eq_true rfl) (fun q5 => ?_)
  refine uv_putF O hm dX8_init_35 0 rfl rfl ux_8 tyX8 tyX8_ok nmX8 2 (Nat.le_of_ble_eq_true rfl) (uq_in (by decide +kernel) (by decide +kernel)) rfl rfl rfl rfl rfl (Nat.le_of_ble_eq_true rfl) ?_
  refine uv_eq (ws' := [(a, .inr (8, [.ref q1, .ref q3, .ref q5, .int 0])), (q1, .inr (5, [.ref q2, .int 0])), (q2, .inl (zc Z 0, (10, .inl (fun _ => 0)))), (q3, .inr (5, [.ref q4, .int 0])), (q4, .inl (zc Z 0, (66, .inl (fun _ => 0)))), (q5, .inl (zc Z 1, (6, .inl (fun _ => 0))))]) rfl ?_
  refine uv_widen (k' := 5) (n' := 86) (Nat.le_of_ble_eq_true rfl) (Nat.le_of_ble_eq_true rfl) ?_
  exact fin (q1, q2, q3, q4, q5) _ _ dX8_init_38
abbrev mk6_0 (a : Nat) : va_W := [(a, .inr (6, [.null, .null, .null, .int 0, .null, .int 0, .int 0, .int 0, .int 0, .int 0]))]
abbrev mk6_1 (Z : ZT) (a q1 q2 q3 q4 q5 : Nat) : va_W := [(a, .inr (6, [.ref q1, .ref q3, .ref q4, .int 0, .ref q5, .int 0, .int 0, .int 0, .int 0, .int 0])), (q1, .inr (5, [.ref q2, .int 0])), (q2, .inl (zc Z 0, (10, .inl (fun _ => 0)))), (q3, .inl (zc Z 1, (6, .inl (fun _ => 0)))), (q4, .inl (zc Z 1, (6, .inl (fun _ => 0)))), (q5, .inl (zc Z 1, (11, .inl (fun _ => 0))))]
set_option maxHeartbeats 4000000 in
theorem mk6 (Z : ZT) (a sz : Nat) : MkC Z yX6_init cX6_init 1 3 5 35 100 [.ref a] (mk6_0 a) (fun u : Nat × Nat × Nat × Nat × Nat => mk6_1 Z a u.1 u.2.1 u.2.2.1 u.2.2.2.1 u.2.2.2.2) sz := by
  refine uv_mk (by decide) (Nat.le_of_ble_eq_true rfl) (fun C O hm fin => ?_)
  have O : uOk Z C RX6 cX6_init 1 3 100 5 35 := O
  have hm : (c_h C).name = "<init>" := hm
  refine uv_eq (ws' := [(a, .inr (6, [.null, .null, .null, .int 0, .null, .int 0, .int 0, .int 0, .int 0, .int 0]))]) rfl ?_
  show uV Z C _ 0 0 0 [(0, .ref a)] []
  refine uv_aload_n O dX6_init_0 0 rfl rfl ?_
  refine uv_obj O dX6_init_1 (uq_in (by decide +kernel) (by decide +kernel)) (uq_in (by decide +kernel) (by decide +kernel)) (uq_in (by decide +kernel) (by decide +kernel)) (Nat.le_of_ble_eq_true rfl) (Nat.le_of_ble_eq_true rfl) (Nat.le_of_ble_eq_true rfl) ?_
  refine uv_aload_n O dX6_init_4 0 rfl rfl ?_
  refine uv_new (Cn := RX5) (T := TX5) (N := 2) (ci := 5) (fs := [.null, .int 0]) O dX6_init_5 tyX5 tyX5_ok ux_5 (uq_in (by decide +kernel) (by decide +kernel)) (uq_in (by decide +kernel) (by decide +kernel)) (uq_in (by decide +kernel) (by decide +kernel)) rfl (fun j hj => by rcases (show j = 0 ∨ j = 1 by omega) with rfl | rfl <;> rfl) (Nat.le_of_ble_eq_true rfl) (Nat.le_of_ble_eq_true rfl) (fun q1 => ?_)
  refine uv_dup O dX6_init_8 rfl ?_
  refine uv_bipush O dX6_init_9 (nI 10) rfl ?_
  refine uv_call (y := yX5_init) (ccY := cX5_init) (maxL := 2) (as := [.int (nI 10)]) (rest := [.ref q1, .ref a]) (W1 := fun u : Nat => mk5_1 Z q1 10 u) O (fun sz => mk5 Z q1 10 sz (by omega)) rfl (Or.inl ⟨dX6_init_11, (Or.inl (uq_in (by decide +kernel) (by decide +kernel))), rfl⟩) (uq_in (by decide +kernel) (by decide +kernel)) (uq_in (by decide +kernel) (by decide +kernel)) (uq_in (by decide +kernel) (by decide +kernel)) (by decide +kernel) ⟨(Nat.le_of_ble_eq_true rfl), (Nat.le_of_ble_eq_true rfl)⟩ (Nat.le_of_ble_eq_true rfl) (Nat.le_of_ble_eq_true rfl) (Nat.le_of_ble_eq_true rfl) (fun q2 => ?_)
  refine uv_eq (ws' := [(a, .inr (6, [.null, .null, .null, .int 0, .null, .int 0, .int 0, .int 0, .int 0, .int 0])), (q1, .inr (5, [.ref q2, .int 0])), (q2, .inl (zc Z 0, (10, .inl (fun _ => 0))))]) rfl ?_
  refine uv_putF O hm dX6_init_14 0 rfl rfl ux_6 tyX6 tyX6_ok nmX6 0 (Nat.le_of_ble_eq_true rfl) (uq_in (by decide +kernel) (by decide +kernel)) rfl rfl rfl rfl rfl (Nat.le_of_ble_eq_true rfl) ?_
  refine uv_eq (ws' := [(a, .inr (6, [.ref q1, .null, .null, .int 0, .null, .int 0, .int 0, .int 0, .int 0, .int 0])), (q1, .inr (5, [.ref q2, .int 0])), (q2, .inl (zc Z 0, (10, .inl (fun _ => 0))))]) rfl ?_
  refine uv_aload_n O dX6_init_17 0 rfl rfl ?_
  refine uv_bipush O dX6_init_18 (nI 6) rfl ?_
  refine uv_newi O dX6_init_20 (uq_in (by decide +kernel) (by decide +kernel)) rfl (Nat.le_of_ble_eq_true rfl) (Nat.le_of_ble_eq_true rfl) (Nat.le_of_ble_eq_true rfl) (fun q3 => ?_)
  refine uv_putF O hm dX6_init_22 0 rfl rfl ux_6 tyX6 tyX6_ok nmX6 1 (Nat.le_of_ble_eq_true rfl) (uq_in (by decide +kernel) (by decide +kernel)) rfl rfl rfl rfl rfl (Nat.le_of_ble_eq_true rfl) ?_
  refine uv_eq (ws' := [(a, .inr (6, [.ref q1, .ref q3, .null, .int 0, .null, .int 0, .int 0, .int 0, .int 0, .int 0])), (q1, .inr (5, [.ref q2, .int 0])), (q2, .inl (zc Z 0, (10, .inl (fun _ => 0)))), (q3, .inl (zc Z 1, (6, .inl (fun _ => 0))))]) rfl ?_
  refine uv_aload_n O dX6_init_25 0 rfl rfl ?_
  refine uv_bipush O dX6_init_26 (nI 6) rfl ?_
  refine uv_newi O dX6_init_28 (uq_in (by decide +kernel) (by decide +kernel)) rfl (Nat.le_of_ble_eq_true rfl) (Nat.le_of_ble_eq_true rfl) (Nat.le_of_ble_eq_true rfl) (fun q4 => ?_)
  refine uv_putF O hm dX6_init_30 0 rfl rfl ux_6 tyX6 tyX6_ok nmX6 2 (Nat.le_of_ble_eq_true rfl) (uq_in (by decide +kernel) (by decide +kernel)) rfl rfl rfl rfl rfl (Nat.le_of_ble_eq_true rfl) ?_
  refine uv_eq (ws' := [(a, .inr (6, [.ref q1, .ref q3, .ref q4, .int 0, .null, .int 0, .int 0, .int 0, .int 0, .int 0])), (q1, .inr (5, [.ref q2, .int 0])), (q2, .inl (zc Z 0, (10, .inl (fun _ => 0)))), (q3, .inl (zc Z 1, (6, .inl (fun _ => 0)))), (q4, .inl (zc Z 1, (6, .inl (fun _ => 0))))]) rfl ?_
  refine uv_aload_n O dX6_init_33 0 rfl rfl ?_
  refine uv_bipush O dX6_init_34 (nI 11) rfl ?_
  refine uv_newi O dX6_init_36 (uq_in (by decide +kernel) (by decide +kernel)) rfl (Nat.le_of_ble_eq_true rfl) (Nat.le_of_ble_eq_true rfl) (Nat.le_of_ble_eq_true rfl) (fun q5 => ?_)
  refine uv_putF O hm dX6_init_38 0 rfl rfl ux_6 tyX6 tyX6_ok nmX6 4 (Nat.le_of_ble_eq_true rfl) (uq_in (by decide +kernel) (by decide +kernel)) rfl rfl rfl rfl rfl (Nat.le_of_ble_eq_true rfl) ?_
  refine uv_eq (ws' := [(a, .inr (6, [.ref q1, .ref q3, .ref q4, .int 0, .ref q5, .int 0, .int 0, .int 0, .int 0, .int 0])), (q1, .inr (5, [.ref q2, .int 0])), (q2, .inl (zc Z 0, (10, .inl (fun _ => 0)))), (q3, .inl (zc Z 1, (6, .inl (fun _ => 0)))), (q4, .inl (zc Z 1, (6, .inl (fun _ => 0)))), (q5, .inl (zc Z 1, (11, .inl (fun _ => 0))))]) rfl ?_
  refine uv_widen (k' := 5) (n' := 35) (Nat.le_of_ble_eq_true rfl) (Nat.le_of_ble_eq_true rfl) ?_
  exact fin (q1, q2, q3, q4, q5) _ _ dX6_init_41
