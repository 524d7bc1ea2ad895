abbrev pmX (Z : ZT) (a : Nat) (p : Nat → Nat) (f1 f2 : Nat → Option Nat) : va_W := [(a, .inr (11, [.ref (p 0), .ref (p 28), .ref (p 29), .int 0, .ref (p 2), .ref (p 9), .ref (p 11), .ref (p 17), .ref (p 20), .ref (p 26), .ref (p 27)])), (p 0, .inr (5, [.ref (p 1), .int 0])), (p 1, .inl (zc Z 0, (50, .inl (fun _ => 0)))), (p 2, .inr (4, [.ref (p 3), .int 0])), (p 3, .inr (3, [.int 0, .ref (p 4), .ref (p 5), .ref (p 6), .ref (p 7), .ref (p 8)])), (p 4, .inl (zc Z 1, (6, .inl (fun _ => 0)))), (p 5, .inl (zc Z 1, (6, .inl (fun _ => 0)))), (p 6, .inl (zc Z 1, (6, .inl (fun _ => 0)))), (p 7, .inl (zc Z 1, (6, .inl (fun _ => 0)))), (p 8, .inl (zc Z 1, (3, .inl (fun _ => 0)))), (p 9, .inr (5, [.ref (p 10), .int 0])), (p 10, .inl (zc Z 0, (10, .inl (fun _ => 0)))), (p 11, .inr (8, [.ref (p 12), .ref (p 14), .ref (p 16), .int 0])), (p 12, .inr (5, [.ref (p 13), .int 0])), (p 13, .inl (zc Z 0, (10, .inl (fun _ => 0)))), (p 14, .inr (5, [.ref (p 15), .int 0])), (p 15, .inl (zc Z 0, (66, .inl (fun _ => 0)))), (p 16, .inl (zc Z 1, (6, .inl (fun _ => 0)))), (p 17, .inr (1, [.ref (p 18), .int 0])), (p 18, .inr (2, [.int (-nI 1), .int 0, .int 0, .ref (p 19)])), (p 19, .inl (zc Z 1, (6, .inl (fun _ => 0)))), (p 20, .inr (6, [.ref (p 21), .ref (p 23), .ref (p 24), .int 0, .ref (p 25), .int 0, .int 0, .int 0, .int 0, .int 0])), (p 21, .inr (5, [.ref (p 22), .int 0])), (p 22, .inl (zc Z 0, (10, .inl (fun _ => 0)))), (p 23, .inl (zc Z 1, (6, .inl (fun _ => 0)))), (p 24, .inl (zc Z 1, (6, .inl (fun _ => 0)))), (p 25, .inl (zc Z 1, (11, .inl (fun _ => 0)))), (p 26, .inl (zc Z 4, (4, .inr (.inr (.inr (.inr f1)))))), (p 27, .inl (zc Z 5, (4, .inr (.inr (.inr (.inr f2))))))]
def bS (Z : ZT) (f : Nat → Nat) (_ : Nat) : va_W := mk7_1 Z (f 0) (f 1)
theorem bS_loc (Z : ZT) : ∀ f g j, (∀ r, r < 2 → f r = g r) → bS Z f j = bS Z g j := by
  intro f g j h
  unfold bS
  simp only [h 0 (by omega), h 1 (by omega)]
def bY (Z : ZT) (f : Nat → Nat) (_ : Nat) : va_W := mk9_1 Z (f 0) (f 1)
theorem bY_loc (Z : ZT) : ∀ f g j, (∀ r, r < 2 → f r = g r) → bY Z f j = bY Z g j := by
  intro f g j h
  unfold bY
  simp only [h 0 (by omega), h 1 (by omega)]
set_option maxHeartbeats 4000000 in
theorem mk11_s {Z : ZT} {C : CX} (O : uOk Z C RX11 cX11_init 2 5 200 382 1966) (a : Nat) (p : Nat → Nat) (f2 : Nat → Option Nat) (T : va_W) (fin : ∀ q, uV Z C (pmX Z a p (uA 2 q 4) f2 ++ (T ++ uT (bS Z) 2 q 4)) (366 + 2 * 4) (1702 + 43 * 4) 138 [(1, .int (nI 4)), (0, .ref a)] []) : ∀ m w q, w + m = 5 → w ≤ 4 → uV Z C (pmX Z a p (uA 2 q w) f2 ++ (T ++ uT (bS Z) 2 q w)) (366 + 2 * w) (1702 + 43 * w) 114 [(1, .int (nI w)), (0, .ref a)] [] := by
  intro m
  induction m with
  | zero => intro w q h1 h2; omega
  | succ m ih =>
  intro w q h1 h2
  refine uv_iload_n O dX11_init_114 0 rfl rfl ?_
  refine uv_iconst O dX11_init_115 (nI 4) rfl ?_
  refine uv_icmp_ge 138 O dX11_init_116 rfl (fun h => ?_) (fun h => ?_)
  · rw [zi_le (by omega) (by omega)] at h
    obtain rfl : w = 4 := by omega
    exact fin q
  rw [zi_le (by omega) (by omega)] at h
  refine uv_aload_n O dX11_init_119 1 rfl rfl ?_
  refine uv_get O dX11_init_120 fx_RX11_61 0 rfl rfl ?_
  refine uv_iload_n O dX11_init_123 0 rfl rfl ?_
  refine uv_new (Cn := RX7) (T := TX7) (N := 3) (ci := 7) (fs := [.int 0, .int 0, .null]) O dX11_init_124 tyX7 tyX7_ok ux_7 (uq_in (by decide +kernel) (by decide +kernel)) (uq_in (by decide +kernel) (by decide +kernel)) (uq_in (by decide +kernel) (by decide +kernel)) rfl (fun j hj => by rcases (show j = 0 ∨ j = 1 ∨ j = 2 by omega) with rfl | rfl | rfl <;> rfl) (by omega) (by omega) (fun v => ?_)
  refine uv_dup O dX11_init_127 rfl ?_
  refine uv_call (y := yX7_init) (ccY := cX7_init) (maxL := 1) (as := []) (rest := [.ref v, .int (nI w), .ref (p 26)]) (W1 := fun u : Nat => mk7_1 Z v u) O (fun sz => mk7 Z v sz) rfl (Or.inl ⟨dX11_init_128, (Or.inr ⟨"PhraseMoods", (nq_in (by decide +kernel) (by decide +kernel))⟩), rfl⟩) (uq_in (by decide +kernel) (by decide +kernel)) (uq_in (by decide +kernel) (by decide +kernel)) (uq_in (by decide +kernel) (by decide +kernel)) (by have h : yX7_init.cls ≠ "java/lang/invoke/MethodHandle" ∧ yX7_init.cls ≠ "java/lang/invoke/VarHandle" ∧ (parseMethodDescriptor yX7_init.desc).map (fun d => d.parameters.length) = some 0 := (by decide +kernel); exact h) ⟨(Nat.le_of_ble_eq_true rfl), (Nat.le_of_ble_eq_true rfl)⟩ (Nat.le_of_ble_eq_true rfl) (by omega) (by omega) (fun r1 => ?_)
  refine uv_eq (ws' := (pmX Z a p (uA 2 q w) f2 ++ (T ++ uT (bS Z) 2 q w)) ++ [(v, .inr (7, [.int (-nI 1), .int 0, .ref r1])), (r1, .inl (zc Z 1, (40, .inl (fun _ => 0))))]) rfl ?_
  refine uv_astq (r := (RX7, TX7, 3)) O dX11_init_131 27 4 ((pmX Z a p (uA 2 q w) f2 ++ (T ++ uT (bS Z) 2 q w)).length) rfl rfl (uv_at _ _ _) rfl (w := w) rfl (by omega) (by omega) ?_
  refine uv_eq (ws' := (pmX Z a p (va_up (uA 2 q w) w (some v)) f2 ++ (T ++ uT (bS Z) 2 q w)) ++ [(v, .inr (7, [.int (-nI 1), .int 0, .ref r1])), (r1, .inl (zc Z 1, (40, .inl (fun _ => 0))))]) rfl ?_
  refine uv_iinc O dX11_init_132 0 rfl (v := nI (w + 1)) (zI.1 w 1) (by omega) [(1, .int (nI (w + 1))), (0, .ref a)] rfl ?_
  refine uv_goto 114 O dX11_init_135 rfl ?_
  refine uv_widen (k' := 366 + 2 * (w + 1)) (n' := 1702 + 43 * (w + 1)) (by omega) (by omega) ?_
  refine uv_eq (ws' := pmX Z a p (uA 2 (uX (2 * w) q (uF [v, r1])) (w + 1)) f2 ++ (T ++ uT (bS Z) 2 (uX (2 * w) q (uF [v, r1])) (w + 1))) ?_ (ih (w + 1) (uX (2 * w) q (uF [v, r1])) (by omega) (by omega))
  rw [← uT_succ (bS_loc Z), ← uA_succ (by omega), ← List.append_assoc T, ← List.append_assoc]
  rfl
set_option maxHeartbeats 4000000 in
theorem mk11_y {Z : ZT} {C : CX} (O : uOk Z C RX11 cX11_init 2 5 200 382 1966) (a : Nat) (p : Nat → Nat) (f1 : Nat → Option Nat) (T : va_W) (fin : ∀ q, uV Z C (pmX Z a p f1 (uA 2 q 4) ++ (T ++ uT (bY Z) 2 q 4)) (374 + 2 * 4) (1874 + 23 * 4) 164 [(1, .int (nI 4)), (0, .ref a)] []) : ∀ m w q, w + m = 5 → w ≤ 4 → uV Z C (pmX Z a p f1 (uA 2 q w) ++ (T ++ uT (bY Z) 2 q w)) (374 + 2 * w) (1874 + 23 * w) 140 [(1, .int (nI w)), (0, .ref a)] [] := by
  intro m
  induction m with
  | zero => intro w q h1 h2; omega
  | succ m ih =>
  intro w q h1 h2
  refine uv_iload_n O dX11_init_140 0 rfl rfl ?_
  refine uv_iconst O dX11_init_141 (nI 4) rfl ?_
  refine uv_icmp_ge 164 O dX11_init_142 rfl (fun h => ?_) (fun h => ?_)
  · rw [zi_le (by omega) (by omega)] at h
    obtain rfl : w = 4 := by omega
    exact fin q
  rw [zi_le (by omega) (by omega)] at h
  refine uv_aload_n O dX11_init_145 1 rfl rfl ?_
  refine uv_get O dX11_init_146 fx_RX11_67 0 rfl rfl ?_
  refine uv_iload_n O dX11_init_149 0 rfl rfl ?_
  refine uv_new (Cn := RX9) (T := TX9) (N := 3) (ci := 9) (fs := [.int 0, .int 0, .null]) O dX11_init_150 tyX9 tyX9_ok ux_9 (uq_in (by decide +kernel) (by decide +kernel)) (uq_in (by decide +kernel) (by decide +kernel)) (uq_in (by decide +kernel) (by decide +kernel)) rfl (fun j hj => by rcases (show j = 0 ∨ j = 1 ∨ j = 2 by omega) with rfl | rfl | rfl <;> rfl) (by omega) (by omega) (fun v => ?_)
  refine uv_dup O dX11_init_153 rfl ?_
  refine uv_call (y := yX9_init) (ccY := cX9_init) (maxL := 1) (as := []) (rest := [.ref v, .int (nI w), .ref (p 27)]) (W1 := fun u : Nat => mk9_1 Z v u) O (fun sz => mk9 Z v sz) rfl (Or.inl ⟨dX11_init_154, (Or.inr ⟨"PhraseMoods", (nq_in (by decide +kernel) (by decide +kernel))⟩), rfl⟩) (uq_in (by decide +kernel) (by decide +kernel)) (uq_in (by decide +kernel) (by decide +kernel)) (uq_in (by decide +kernel) (by decide +kernel)) (by have h : yX9_init.cls ≠ "java/lang/invoke/MethodHandle" ∧ yX9_init.cls ≠ "java/lang/invoke/VarHandle" ∧ (parseMethodDescriptor yX9_init.desc).map (fun d => d.parameters.length) = some 0 := (by decide +kernel); exact h) ⟨(Nat.le_of_ble_eq_true rfl), (Nat.le_of_ble_eq_true rfl)⟩ (Nat.le_of_ble_eq_true rfl) (by omega) (by omega) (fun r1 => ?_)
  refine uv_eq (ws' := (pmX Z a p f1 (uA 2 q w) ++ (T ++ uT (bY Z) 2 q w)) ++ [(v, .inr (9, [.int (-nI 1), .int 0, .ref r1])), (r1, .inl (zc Z 1, (20, .inl (fun _ => 0))))]) rfl ?_
  refine uv_astq (r := (RX9, TX9, 3)) O dX11_init_157 28 5 ((pmX Z a p f1 (uA 2 q w) ++ (T ++ uT (bY Z) 2 q w)).length) rfl rfl (uv_at _ _ _) rfl (w := w) rfl (by omega) (by omega) ?_
  refine uv_eq (ws' := (pmX Z a p f1 (va_up (uA 2 q w) w (some v)) ++ (T ++ uT (bY Z) 2 q w)) ++ [(v, .inr (9, [.int (-nI 1), .int 0, .ref r1])), (r1, .inl (zc Z 1, (20, .inl (fun _ => 0))))]) rfl ?_
  refine uv_iinc O dX11_init_158 0 rfl (v := nI (w + 1)) (zI.1 w 1) (by omega) [(1, .int (nI (w + 1))), (0, .ref a)] rfl ?_
  refine uv_goto 140 O dX11_init_161 rfl ?_
  refine uv_widen (k' := 374 + 2 * (w + 1)) (n' := 1874 + 23 * (w + 1)) (by omega) (by omega) ?_
  refine uv_eq (ws' := pmX Z a p f1 (uA 2 (uX (2 * w) q (uF [v, r1])) (w + 1)) ++ (T ++ uT (bY Z) 2 (uX (2 * w) q (uF [v, r1])) (w + 1))) ?_ (ih (w + 1) (uX (2 * w) q (uF [v, r1])) (by omega) (by omega))
  rw [← uT_succ (bY_loc Z), ← uA_succ (by omega), ← List.append_assoc T, ← List.append_assoc]
  rfl
