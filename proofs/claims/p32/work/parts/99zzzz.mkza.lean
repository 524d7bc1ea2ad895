set_option maxHeartbeats 4000000 in
theorem mk0_w {Z : ZT} {C : CX} (O : uOk Z C RX0 cX0_init 2 4 150 168 716) (a p1 p2 p3 p4 p5 p6 p7 p8 : Nat) (f2 f3 f4 : Nat → Option Nat) (T : va_W) (fin : ∀ q, uV Z C (bkX Z a p1 p2 p3 p4 p5 p6 p7 p8 (uA 3 q 20) f2 f3 f4 ++ (T ++ uT (bW Z) 3 q 20)) (8 + 3 * 20) (122 + 13 * 20) 93 [(1, .int (nI 20)), (0, .ref a)] []) : ∀ m w q, w + m = 21 → w ≤ 20 → uV Z C (bkX Z a p1 p2 p3 p4 p5 p6 p7 p8 (uA 3 q w) f2 f3 f4 ++ (T ++ uT (bW Z) 3 q w)) (8 + 3 * w) (122 + 13 * w) 64 [(1, .int (nI w)), (0, .ref a)] [] := by
  intro m
  induction m with
  | zero => intro w q h1 h2; omega
  | succ m ih =>
  intro w q h1 h2
  refine uv_iload_n O dX0_init_64 0 rfl rfl ?_
  refine uv_aload_n O dX0_init_65 1 rfl rfl ?_
  refine uv_get O dX0_init_66 fx_RX0_11 0 rfl rfl ?_
  refine uv_alen O dX0_init_69 1 6 rfl rfl (v := nI 20) rfl ?_
  refine uv_icmp_ge 93 O dX0_init_70 rfl (fun h => ?_) (fun h => ?_)
  · rw [zi_le (by omega) (by omega)] at h
    obtain rfl : w = 20 := by omega
    exact fin q
  rw [zi_le (by omega) (by omega)] at h
  refine uv_aload_n O dX0_init_73 1 rfl rfl ?_
  refine uv_get O dX0_init_74 fx_RX0_11 0 rfl rfl ?_
  refine uv_iload_n O dX0_init_77 0 rfl rfl ?_
  refine uv_new (Cn := RX10) (T := TX10) (N := 5) (ci := 10) (fs := [.int 0, .null, .int 0, .int 0, .int 0]) O dX0_init_78 tyX10 tyX10_ok ux_10 (uq_in (by decide +kernel) (by decide +kernel)) (uq_in (by decide +kernel) (by decide +kernel)) (uq_in (by decide +kernel) (by decide +kernel)) rfl (fun j hj => by rcases (show j = 0 ∨ j = 1 ∨ j = 2 ∨ j = 3 ∨ j = 4 by omega) with rfl | rfl | rfl | rfl | rfl <;> rfl) (by omega) (by omega) (fun v => ?_)
  refine uv_dup O dX0_init_81 rfl ?_
  refine uv_iload_n O dX0_init_82 0 rfl rfl ?_
  refine uv_call (y := yX10_init) (ccY := cX10_init) (maxL := 2) (as := [.int (nI w)]) (rest := [.ref v, .int (nI w), .ref p1]) (W1 := fun u : Nat × Nat => mk10_1 Z v w u.1 u.2) O (fun sz => mk10 Z v w sz) rfl (Or.inl ⟨dX0_init_83, (Or.inl (uq_in (by decide +kernel) (by decide +kernel))), rfl⟩) (uq_in (by decide +kernel) (by decide +kernel)) (uq_in (by decide +kernel) (by decide +kernel)) (uq_in (by decide +kernel) (by decide +kernel)) (by have h : yX10_init.cls ≠ "java/lang/invoke/MethodHandle" ∧ yX10_init.cls ≠ "java/lang/invoke/VarHandle" ∧ (parseMethodDescriptor yX10_init.desc).map (fun d => d.parameters.length) = some 1 := (by decide +kernel); exact h) ⟨(Nat.le_of_ble_eq_true rfl), (Nat.le_of_ble_eq_true rfl)⟩ (Nat.le_of_ble_eq_true rfl) (by omega) (by omega) (fun ⟨r1, r2⟩ => ?_)
  refine uv_eq (ws' := (bkX Z a p1 p2 p3 p4 p5 p6 p7 p8 (uA 3 q w) f2 f3 f4 ++ (T ++ uT (bW Z) 3 q w)) ++ [(v, .inr (10, [.int (nI w), .ref r1, .int 0, .int 0, .int 0])), (r1, .inr (5, [.ref r2, .int 0])), (r2, .inl (zc Z 0, (6, .inl (fun _ => 0))))]) rfl ?_
  refine uv_astq (r := (RX10, TX10, 5)) O dX0_init_86 1 6 ((bkX Z a p1 p2 p3 p4 p5 p6 p7 p8 (uA 3 q w) f2 f3 f4 ++ (T ++ uT (bW Z) 3 q w)).length) rfl rfl (uv_at _ _ _) rfl (w := w) rfl (by omega) (by omega) ?_
  refine uv_eq (ws' := (bkX Z a p1 p2 p3 p4 p5 p6 p7 p8 (va_up (uA 3 q w) w (some v)) f2 f3 f4 ++ (T ++ uT (bW Z) 3 q w)) ++ [(v, .inr (10, [.int (nI w), .ref r1, .int 0, .int 0, .int 0])), (r1, .inr (5, [.ref r2, .int 0])), (r2, .inl (zc Z 0, (6, .inl (fun _ => 0))))]) rfl ?_
  refine uv_iinc O dX0_init_87 0 rfl (v := nI (w + 1)) (zI.1 w 1) (by omega) [(1, .int (nI (w + 1))), (0, .ref a)] rfl ?_
  refine uv_goto 64 O dX0_init_90 rfl ?_
  refine uv_widen (k' := 8 + 3 * (w + 1)) (n' := 122 + 13 * (w + 1)) (by omega) (by omega) ?_
  refine uv_eq (ws' := bkX Z a p1 p2 p3 p4 p5 p6 p7 p8 (uA 3 (uX (3 * w) q (uF [v, r1, r2])) (w + 1)) f2 f3 f4 ++ (T ++ uT (bW Z) 3 (uX (3 * w) q (uF [v, r1, r2])) (w + 1))) ?_ (ih (w + 1) (uX (3 * w) q (uF [v, r1, r2])) (by omega) (by omega))
  rw [← uT_succ (bW_loc Z), ← uA_succ (by omega), ← List.append_assoc T, ← List.append_assoc]
  rfl
set_option maxHeartbeats 4000000 in
theorem mk0_e {Z : ZT} {C : CX} (O : uOk Z C RX0 cX0_init 2 4 150 168 716) (a p1 p2 p3 p4 p5 p6 p7 p8 : Nat) (f1 f3 f4 : Nat → Option Nat) (T : va_W) (fin : ∀ q, uV Z C (bkX Z a p1 p2 p3 p4 p5 p6 p7 p8 f1 (uA 2 q 32) f3 f4 ++ (T ++ uT (bE Z) 2 q 32)) (68 + 2 * 32) (382 + 5 * 32) 124 [(1, .int (nI 32)), (0, .ref a)] []) : ∀ m w q, w + m = 33 → w ≤ 32 → uV Z C (bkX Z a p1 p2 p3 p4 p5 p6 p7 p8 f1 (uA 2 q w) f3 f4 ++ (T ++ uT (bE Z) 2 q w)) (68 + 2 * w) (382 + 5 * w) 95 [(1, .int (nI w)), (0, .ref a)] [] := by
  intro m
  induction m with
  | zero => intro w q h1 h2; omega
  | succ m ih =>
  intro w q h1 h2
  refine uv_iload_n O dX0_init_95 0 rfl rfl ?_
  refine uv_aload_n O dX0_init_96 1 rfl rfl ?_
  refine uv_get O dX0_init_97 fx_RX0_19 0 rfl rfl ?_
  refine uv_alen O dX0_init_100 2 3 rfl rfl (v := nI 32) rfl ?_
  refine uv_icmp_ge 124 O dX0_init_101 rfl (fun h => ?_) (fun h => ?_)
  · rw [zi_le (by omega) (by omega)] at h
    obtain rfl : w = 32 := by omega
    exact fin q
  rw [zi_le (by omega) (by omega)] at h
  refine uv_aload_n O dX0_init_104 1 rfl rfl ?_
  refine uv_get O dX0_init_105 fx_RX0_19 0 rfl rfl ?_
  refine uv_iload_n O dX0_init_108 0 rfl rfl ?_
  refine uv_new (Cn := RX5) (T := TX5) (N := 2) (ci := 5) (fs := [.null, .int 0]) O dX0_init_109 tyX5 tyX5_ok ux_5 (uq_in (by decide +kernel) (by decide +kernel)) (uq_in (by decide +kernel) (by decide +kernel)) (uq_in (by decide +kernel) (by decide +kernel)) rfl (fun j hj => by rcases (show j = 0 ∨ j = 1 by omega) with rfl | rfl <;> rfl) (by omega) (by omega) (fun v => ?_)
  refine uv_dup O dX0_init_112 rfl ?_
  refine uv_iconst O dX0_init_113 (nI 3) rfl ?_
  refine uv_call (y := yX5_init) (ccY := cX5_init) (maxL := 2) (as := [.int (nI 3)]) (rest := [.ref v, .int (nI w), .ref p2]) (W1 := fun u : Nat => mk5_1 Z v 3 u) O (fun sz => mk5 Z v 3 sz (by omega)) rfl (Or.inl ⟨dX0_init_114, (Or.inl (uq_in (by decide +kernel) (by decide +kernel))), rfl⟩) (uq_in (by decide +kernel) (by decide +kernel)) (uq_in (by decide +kernel) (by decide +kernel)) (uq_in (by decide +kernel) (by decide +kernel)) (by have h : yX5_init.cls ≠ "java/lang/invoke/MethodHandle" ∧ yX5_init.cls ≠ "java/lang/invoke/VarHandle" ∧ (parseMethodDescriptor yX5_init.desc).map (fun d => d.parameters.length) = some 1 := (by decide +kernel); exact h) ⟨(Nat.le_of_ble_eq_true rfl), (Nat.le_of_ble_eq_true rfl)⟩ (Nat.le_of_ble_eq_true rfl) (by omega) (by omega) (fun r1 => ?_)
  refine uv_eq (ws' := (bkX Z a p1 p2 p3 p4 p5 p6 p7 p8 f1 (uA 2 q w) f3 f4 ++ (T ++ uT (bE Z) 2 q w)) ++ [(v, .inr (5, [.ref r1, .int 0])), (r1, .inl (zc Z 0, (3, .inl (fun _ => 0))))]) rfl ?_
  refine uv_astq (r := (RX5, TX5, 2)) O dX0_init_117 2 3 ((bkX Z a p1 p2 p3 p4 p5 p6 p7 p8 f1 (uA 2 q w) f3 f4 ++ (T ++ uT (bE Z) 2 q w)).length) rfl rfl (uv_at _ _ _) rfl (w := w) rfl (by omega) (by omega) ?_
  refine uv_eq (ws' := (bkX Z a p1 p2 p3 p4 p5 p6 p7 p8 f1 (va_up (uA 2 q w) w (some v)) f3 f4 ++ (T ++ uT (bE Z) 2 q w)) ++ [(v, .inr (5, [.ref r1, .int 0])), (r1, .inl (zc Z 0, (3, .inl (fun _ => 0))))]) rfl ?_
  refine uv_iinc O dX0_init_118 0 rfl (v := nI (w + 1)) (zI.1 w 1) (by omega) [(1, .int (nI (w + 1))), (0, .ref a)] rfl ?_
  refine uv_goto 95 O dX0_init_121 rfl ?_
  refine uv_widen (k' := 68 + 2 * (w + 1)) (n' := 382 + 5 * (w + 1)) (by omega) (by omega) ?_
  refine uv_eq (ws' := bkX Z a p1 p2 p3 p4 p5 p6 p7 p8 f1 (uA 2 (uX (2 * w) q (uF [v, r1])) (w + 1)) f3 f4 ++ (T ++ uT (bE Z) 2 (uX (2 * w) q (uF [v, r1])) (w + 1))) ?_ (ih (w + 1) (uX (2 * w) q (uF [v, r1])) (by omega) (by omega))
  rw [← uT_succ (bE_loc Z), ← uA_succ (by omega), ← List.append_assoc T, ← List.append_assoc]
  rfl
