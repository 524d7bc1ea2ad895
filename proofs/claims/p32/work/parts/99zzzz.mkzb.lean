set_option maxHeartbeats 4000000 in
theorem mk0_g {Z : ZT} {C : CX} (O : uOk Z C RX0 cX0_init 2 4 150 168 716) (a p1 p2 p3 p4 p5 p6 p7 p8 : Nat) (f1 f2 f4 : Nat → Option Nat) (T : va_W) (fin : ∀ q, uV Z C (bkX Z a p1 p2 p3 p4 p5 p6 p7 p8 f1 f2 (uA 2 q 3) f4 ++ (T ++ uT (bG Z) 2 q 3)) (132 + 2 * 3) (542 + 3 * 3) 185 [(1, .int (nI 3)), (0, .ref a)] []) : ∀ m w q, w + m = 4 → w ≤ 3 → uV Z C (bkX Z a p1 p2 p3 p4 p5 p6 p7 p8 f1 f2 (uA 2 q w) f4 ++ (T ++ uT (bG Z) 2 q w)) (132 + 2 * w) (542 + 3 * w) 126 [(1, .int (nI w)), (0, .ref a)] [] := by
  intro m
  induction m with
  | zero => intro w q h1 h2; omega
  | succ m ih =>
  intro w q h1 h2
  refine uv_iload_n O dX0_init_126 0 rfl rfl ?_
  refine uv_aload_n O dX0_init_127 1 rfl rfl ?_
  refine uv_get O dX0_init_128 fx_RX0_23 0 rfl rfl ?_
  refine uv_alen O dX0_init_131 3 7 rfl rfl (v := nI 3) rfl ?_
  refine uv_icmp_ge 185 O dX0_init_132 rfl (fun h => ?_) (fun h => ?_)
  · rw [zi_le (by omega) (by omega)] at h
    obtain rfl : w = 3 := by omega
    exact fin q
  rw [zi_le (by omega) (by omega)] at h
  refine uv_aload_n O dX0_init_135 1 rfl rfl ?_
  refine uv_get O dX0_init_136 fx_RX0_23 0 rfl rfl ?_
  refine uv_iload_n O dX0_init_139 0 rfl rfl ?_
  refine uv_new (Cn := RX5) (T := TX5) (N := 2) (ci := 5) (fs := [.null, .int 0]) O dX0_init_140 tyX5 tyX5_ok ux_5 (uq_in (by decide +kernel) (by decide +kernel)) (uq_in (by decide +kernel) (by decide +kernel)) (uq_in (by decide +kernel) (by decide +kernel)) rfl (fun j hj => by rcases (show j = 0 ∨ j = 1 by omega) with rfl | rfl <;> rfl) (by omega) (by omega) (fun v => ?_)
  refine uv_dup O dX0_init_143 rfl ?_
  refine uv_iconst O dX0_init_144 (nI 1) rfl ?_
  refine uv_call (y := yX5_init) (ccY := cX5_init) (maxL := 2) (as := [.int (nI 1)]) (rest := [.ref v, .int (nI w), .ref p3]) (W1 := fun u : Nat => mk5_1 Z v 1 u) O (fun sz => mk5 Z v 1 sz (by omega)) rfl (Or.inl ⟨dX0_init_145, (Or.inl (uq_in (by decide +kernel) (by decide +kernel))), rfl⟩) (uq_in (by decide +kernel) (by decide +kernel)) (uq_in (by decide +kernel) (by decide +kernel)) (uq_in (by decide +kernel) (by decide +kernel)) (by have h : yX5_init.cls ≠ "java/lang/invoke/MethodHandle" ∧ yX5_init.cls ≠ "java/lang/invoke/VarHandle" ∧ (parseMethodDescriptor yX5_init.desc).map (fun d => d.parameters.length) = some 1 := (by decide +kernel); exact h) ⟨(Nat.le_of_ble_eq_true rfl), (Nat.le_of_ble_eq_true rfl)⟩ (Nat.le_of_ble_eq_true rfl) (by omega) (by omega) (fun r1 => ?_)
  refine uv_eq (ws' := (bkX Z a p1 p2 p3 p4 p5 p6 p7 p8 f1 f2 (uA 2 q w) f4 ++ (T ++ uT (bG Z) 2 q w)) ++ [(v, .inr (5, [.ref r1, .int 0])), (r1, .inl (zc Z 0, (1, .inl (fun _ => 0))))]) rfl ?_
  refine uv_astq (r := (RX5, TX5, 2)) O dX0_init_148 3 7 ((bkX Z a p1 p2 p3 p4 p5 p6 p7 p8 f1 f2 (uA 2 q w) f4 ++ (T ++ uT (bG Z) 2 q w)).length) rfl rfl (uv_at _ _ _) rfl (w := w) rfl (by omega) (by omega) ?_
  refine uv_eq (ws' := (bkX Z a p1 p2 p3 p4 p5 p6 p7 p8 f1 f2 (va_up (uA 2 q w) w (some v)) f4 ++ (T ++ uT (bG Z) 2 q w)) ++ [(v, .inr (5, [.ref r1, .int 0])), (r1, .inl (zc Z 0, (1, .inl (fun _ => 0))))]) rfl ?_
  refine uv_aload_n O dX0_init_149 1 rfl rfl ?_
  refine uv_get O dX0_init_150 fx_RX0_23 0 rfl rfl ?_
  refine uv_iload_n O dX0_init_153 0 rfl rfl ?_
  refine uv_aldq (v := v) (Cn := RX5) O dX0_init_154 3 7 rfl rfl (w := w) rfl (by omega) (by omega) (if_pos rfl) ?_
  have go : uV Z C ((bkX Z a p1 p2 p3 p4 p5 p6 p7 p8 f1 f2 (va_up (uA 2 q w) w (some v)) f4 ++ (T ++ uT (bG Z) 2 q w)) ++ [(v, .inr (5, [.ref r1, .int 0])), (r1, .inl (zc Z 0, (1, .inl (fun _ => 0))))]) (132 + 2 * w + 1 + 1) (542 + 3 * w + 2 + 1) 176 [(1, .int (nI w)), (0, .ref a)] [.int (uL w), .ref v] := by
    refine uv_call (y := yX5_add) (ccY := cX5_add) (maxL := 2) (as := [.int (uL w)]) (rest := []) (W1 := fun _ : Unit => mka_1 Z v r1 (uL w)) O (fun sz => mka Z v r1 (uL w) sz) rfl (Or.inr ⟨dX0_init_176, (uq_in (by decide +kernel) (by decide +kernel)), (uq_in (by decide +kernel) (by decide +kernel)), 5, [.ref r1, .int 0], TX5, 2, rfl, rfl⟩) (uq_in (by decide +kernel) (by decide +kernel)) (uq_in (by decide +kernel) (by decide +kernel)) (uq_in (by decide +kernel) (by decide +kernel)) (by have h : yX5_add.cls ≠ "java/lang/invoke/MethodHandle" ∧ yX5_add.cls ≠ "java/lang/invoke/VarHandle" ∧ (parseMethodDescriptor yX5_add.desc).map (fun d => d.parameters.length) = some 1 := (by decide +kernel); exact h) ⟨(Nat.le_of_ble_eq_true rfl), (Nat.le_of_ble_eq_true rfl)⟩ (Nat.le_of_ble_eq_true rfl) (by omega) (by omega) (fun _ => ?_)
    refine uv_iinc O dX0_init_179 0 rfl (v := nI (w + 1)) (zI.1 w 1) (by omega) [(1, .int (nI (w + 1))), (0, .ref a)] rfl ?_
    refine uv_goto 126 O dX0_init_182 rfl ?_
    refine uv_widen (k' := 132 + 2 * (w + 1)) (n' := 542 + 3 * (w + 1)) (by omega) (by omega) ?_
    refine uv_eq (ws' := bkX Z a p1 p2 p3 p4 p5 p6 p7 p8 f1 f2 (uA 2 (uX (2 * w) q (uF [v, r1])) (w + 1)) f4 ++ (T ++ uT (bG Z) 2 (uX (2 * w) q (uF [v, r1])) (w + 1))) ?_ (ih (w + 1) (uX (2 * w) q (uF [v, r1])) (by omega) (by omega))
    rw [← uT_succ (bG_loc Z), ← uA_succ (by omega), ← List.append_assoc T, ← List.append_assoc]
    rfl
  refine uv_iload_n O dX0_init_155 0 rfl rfl ?_
  refine uv_if_ne 164 O dX0_init_156 rfl (fun h0 => ?_) (fun h0 => ?_)
  · refine uv_iload_n O dX0_init_164 0 rfl rfl ?_
    refine uv_iconst O dX0_init_165 (nI 1) rfl ?_
    refine uv_icmp_ne 174 O dX0_init_166 rfl (fun h1 => ?_) (fun h1 => ?_)
    · refine uv_bipush O dX0_init_174 (uL w) ?_ go
      unfold uL
      rw [if_neg (fun q => h0 (by rw [q]; rfl)), if_neg (fun q => h1 (by rw [q]))]
      rfl
    · refine uv_bipush O dX0_init_169 (uL w) ?_ (uv_goto 176 O dX0_init_171 rfl go)
      unfold uL
      rw [zi_eq (by omega) (by omega)] at h1
      rw [if_neg (by omega), if_pos h1]
      rfl
  · refine uv_bipush O dX0_init_159 (uL w) ?_ (uv_goto 176 O dX0_init_161 rfl go)
    unfold uL
    have h0 : nI w = nI 0 := h0
    rw [zi_eq (by omega) (by omega)] at h0
    rw [if_pos h0]
    rfl
set_option maxHeartbeats 4000000 in
theorem mk0_f {Z : ZT} {C : CX} (O : uOk Z C RX0 cX0_init 2 4 150 168 716) (a p1 p2 p3 p4 p5 p6 p7 p8 : Nat) (f1 f2 f3 : Nat → Option Nat) (T : va_W) (fin : ∀ q, uV Z C (bkX Z a p1 p2 p3 p4 p5 p6 p7 p8 f1 f2 f3 (uA 6 q 5) ++ (T ++ uT (bF Z) 6 q 5)) (138 + 6 * 5) (551 + 33 * 5) 215 [(1, .int (nI 5)), (0, .ref a)] []) : ∀ m w q, w + m = 6 → w ≤ 5 → uV Z C (bkX Z a p1 p2 p3 p4 p5 p6 p7 p8 f1 f2 f3 (uA 6 q w) ++ (T ++ uT (bF Z) 6 q w)) (138 + 6 * w) (551 + 33 * w) 187 [(1, .int (nI w)), (0, .ref a)] [] := by
  intro m
  induction m with
  | zero => intro w q h1 h2; omega
  | succ m ih =>
  intro w q h1 h2
  refine uv_iload_n O dX0_init_187 0 rfl rfl ?_
  refine uv_aload_n O dX0_init_188 1 rfl rfl ?_
  refine uv_get O dX0_init_189 fx_RX0_28 0 rfl rfl ?_
  refine uv_alen O dX0_init_192 4 2 rfl rfl (v := nI 5) rfl ?_
  refine uv_icmp_ge 215 O dX0_init_193 rfl (fun h => ?_) (fun h => ?_)
  · rw [zi_le (by omega) (by omega)] at h
    obtain rfl : w = 5 := by omega
    exact fin q
  rw [zi_le (by omega) (by omega)] at h
  refine uv_aload_n O dX0_init_196 1 rfl rfl ?_
  refine uv_get O dX0_init_197 fx_RX0_28 0 rfl rfl ?_
  refine uv_iload_n O dX0_init_200 0 rfl rfl ?_
  refine uv_new (Cn := RX3) (T := TX3) (N := 6) (ci := 3) (fs := [.int 0, .null, .null, .null, .null, .null]) O dX0_init_201 tyX3 tyX3_ok ux_3 (uq_in (by decide +kernel) (by decide +kernel)) (uq_in (by decide +kernel) (by decide +kernel)) (uq_in (by decide +kernel) (by decide +kernel)) rfl (fun j hj => by rcases (show j = 0 ∨ j = 1 ∨ j = 2 ∨ j = 3 ∨ j = 4 ∨ j = 5 by omega) with rfl | rfl | rfl | rfl | rfl | rfl <;> rfl) (by omega) (by omega) (fun v => ?_)
  refine uv_dup O dX0_init_204 rfl ?_
  refine uv_call (y := yX3_init) (ccY := cX3_init) (maxL := 1) (as := []) (rest := [.ref v, .int (nI w), .ref p4]) (W1 := fun u : Nat × Nat × Nat × Nat × Nat => mk3_1 Z v u.1 u.2.1 u.2.2.1 u.2.2.2.1 u.2.2.2.2) O (fun sz => mk3 Z v sz) rfl (Or.inl ⟨dX0_init_205, (Or.inr ⟨"PhraseMoods", (nq_in (by decide +kernel) (by decide +kernel))⟩), rfl⟩) (uq_in (by decide +kernel) (by decide +kernel)) (uq_in (by decide +kernel) (by decide +kernel)) (uq_in (by decide +kernel) (by decide +kernel)) (by have h : yX3_init.cls ≠ "java/lang/invoke/MethodHandle" ∧ yX3_init.cls ≠ "java/lang/invoke/VarHandle" ∧ (parseMethodDescriptor yX3_init.desc).map (fun d => d.parameters.length) = some 0 := (by decide +kernel); exact h) ⟨(Nat.le_of_ble_eq_true rfl), (Nat.le_of_ble_eq_true rfl)⟩ (Nat.le_of_ble_eq_true rfl) (by omega) (by omega) (fun ⟨r1, r2, r3, r4, r5⟩ => ?_)
  refine uv_eq (ws' := (bkX Z a p1 p2 p3 p4 p5 p6 p7 p8 f1 f2 f3 (uA 6 q w) ++ (T ++ uT (bF Z) 6 q w)) ++ [(v, .inr (3, [.int 0, .ref r1, .ref r2, .ref r3, .ref r4, .ref r5])), (r1, .inl (zc Z 1, (6, .inl (fun _ => 0)))), (r2, .inl (zc Z 1, (6, .inl (fun _ => 0)))), (r3, .inl (zc Z 1, (6, .inl (fun _ => 0)))), (r4, .inl (zc Z 1, (6, .inl (fun _ => 0)))), (r5, .inl (zc Z 1, (3, .inl (fun _ => 0))))]) rfl ?_
  refine uv_astq (r := (RX3, TX3, 6)) O dX0_init_208 4 2 ((bkX Z a p1 p2 p3 p4 p5 p6 p7 p8 f1 f2 f3 (uA 6 q w) ++ (T ++ uT (bF Z) 6 q w)).length) rfl rfl (uv_at _ _ _) rfl (w := w) rfl (by omega) (by omega) ?_
  refine uv_eq (ws' := (bkX Z a p1 p2 p3 p4 p5 p6 p7 p8 f1 f2 f3 (va_up (uA 6 q w) w (some v)) ++ (T ++ uT (bF Z) 6 q w)) ++ [(v, .inr (3, [.int 0, .ref r1, .ref r2, .ref r3, .ref r4, .ref r5])), (r1, .inl (zc Z 1, (6, .inl (fun _ => 0)))), (r2, .inl (zc Z 1, (6, .inl (fun _ => 0)))), (r3, .inl (zc Z 1, (6, .inl (fun _ => 0)))), (r4, .inl (zc Z 1, (6, .inl (fun _ => 0)))), (r5, .inl (zc Z 1, (3, .inl (fun _ => 0))))]) rfl ?_
  refine uv_iinc O dX0_init_209 0 rfl (v := nI (w + 1)) (zI.1 w 1) (by omega) [(1, .int (nI (w + 1))), (0, .ref a)] rfl ?_
  refine uv_goto 187 O dX0_init_212 rfl ?_
  refine uv_widen (k' := 138 + 6 * (w + 1)) (n' := 551 + 33 * (w + 1)) (by omega) (by omega) ?_
  refine uv_eq (ws' := bkX Z a p1 p2 p3 p4 p5 p6 p7 p8 f1 f2 f3 (uA 6 (uX (6 * w) q (uF [v, r1, r2, r3, r4, r5])) (w + 1)) ++ (T ++ uT (bF Z) 6 (uX (6 * w) q (uF [v, r1, r2, r3, r4, r5])) (w + 1))) ?_ (ih (w + 1) (uX (6 * w) q (uF [v, r1, r2, r3, r4, r5])) (by omega) (by omega))
  rw [← uT_succ (bF_loc Z), ← uA_succ (by omega), ← List.append_assoc T, ← List.append_assoc]
  rfl
