/-- addresses: the old ones, then a block's -/
def uX (n : Nat) (q u : Nat → Nat) : Nat → Nat := fun i => if i < n then q i else u (i - n)
def uF (l : List Nat) : Nat → Nat := fun r => l[r]?.getD 0
def uT (blk : (Nat → Nat) → Nat → va_W) (c : Nat) (q : Nat → Nat) (w : Nat) : va_W := (List.range w).flatMap (fun j => blk (fun r => q (c * j + r)) j)
def uA (c : Nat) (q : Nat → Nat) (w : Nat) : Nat → Option Nat := fun j => if j < w then some (q (c * j)) else none
theorem uT_succ {blk : (Nat → Nat) → Nat → va_W} {c : Nat} (hloc : ∀ f g j, (∀ r, r < c → f r = g r) → blk f j = blk g j) (q u : Nat → Nat) (w : Nat) : uT blk c q w ++ blk u w = uT blk c (uX (c * w) q u) (w + 1) := by
  unfold uT
  rw [List.range_succ, List.flatMap_append]
  congr 1
  · rw [List.flatMap_def, List.flatMap_def]
    congr 1
    refine List.map_congr_left (fun j hj => hloc _ _ j (fun r hr => ?_))
    have h1 := List.mem_range.mp hj
    have h2 : c * (j + 1) ≤ c * w := Nat.mul_le_mul_left c h1
    rw [Nat.mul_add, Nat.mul_one] at h2
    unfold uX
    rw [if_pos (by omega)]
  · rw [List.flatMap_cons, List.flatMap_nil, List.append_nil]
    refine hloc _ _ w (fun r hr => ?_)
    unfold uX
    rw [if_neg (by omega), Nat.add_sub_cancel_left]
theorem uA_succ {c : Nat} (hc : 0 < c) (q u : Nat → Nat) (w : Nat) : va_up (uA c q w) w (some (u 0)) = uA c (uX (c * w) q u) (w + 1) := by
  funext j
  unfold va_up uA uX
  by_cases h : j = w
  · subst h
    rw [if_pos rfl, if_pos (by omega), if_neg (by omega), Nat.sub_self]
  · rw [if_neg h]
    by_cases h2 : j < w
    · have h3 : c * (j + 1) ≤ c * w := Nat.mul_le_mul_left c h2
      rw [Nat.mul_add, Nat.mul_one] at h3
      rw [if_pos h2, if_pos (by omega), if_pos (by omega)]
    · rw [if_neg h2, if_neg (by omega)]
theorem uA_zero (c : Nat) (q : Nat → Nat) : uA c q 0 = fun _ => none := by
  funext j
  unfold uA
  rw [if_neg (by omega)]
abbrev mka_0 (Z : ZT) (a r : Nat) : va_W := [(a, .inr (5, [.ref r, .int 0])), (r, .inl (zc Z 0, (1, .inl (fun _ => 0))))]
abbrev mka_1 (Z : ZT) (a r : Nat) (v : Int32) : va_W := [(a, .inr (5, [.ref r, .int (nI 1)])), (r, .inl (zc Z 0, (1, .inl (upd (fun _ => 0) 0 v.toInt8.toInt32.toInt8.toInt32))))]
set_option maxHeartbeats 4000000 in
theorem mka (Z : ZT) (a r : Nat) (v : Int32) (sz : Nat) : MkC Z yX5_add cX5_add 2 2 0 0 60 [.ref a, .int v] (mka_0 Z a r) (fun _ : Unit => mka_1 Z a r v) sz := by
  refine uv_mk (by decide) (Nat.le_of_ble_eq_true rfl) (fun C O hm fin => ?_)
  have O : uOk Z C RX5 cX5_add 2 2 60 0 0 := O
  show uV Z C _ 0 0 0 [(0, .ref a), (1, .int v)] []
  refine uv_aload_n O dX5_add_0 0 rfl rfl ?_
  refine uv_get O dX5_add_1 fx_RX5_21 0 rfl rfl ?_
  refine uv_aload_n O dX5_add_4 0 rfl rfl ?_
  refine uv_get O dX5_add_5 fx_RX5_15 0 rfl rfl ?_
  refine uv_alen O dX5_add_8 1 0 rfl rfl (v := nI 1) rfl ?_
  refine uv_icmp_ge 33 O dX5_add_9 rfl (fun h => absurd h (by decide +kernel)) (fun _ => ?_)
  refine uv_aload_n O dX5_add_12 0 rfl rfl ?_
  refine uv_get O dX5_add_13 fx_RX5_15 0 rfl rfl ?_
  refine uv_aload_n O dX5_add_16 0 rfl rfl ?_
  refine uv_get O dX5_add_17 fx_RX5_21 0 rfl rfl ?_
  refine uv_iload_n O dX5_add_20 1 rfl rfl ?_
  refine uv_obj1 O dX5_add_21 (fun x hx => ?_)
  subst hx
  refine uv_bast O dX5_add_22 1 rfl (w := 0) rfl (by omega) (by omega) ?_
  refine uv_aload_n O dX5_add_23 0 rfl rfl ?_
  refine uv_dup O dX5_add_24 rfl ?_
  refine uv_get O dX5_add_25 fx_RX5_21 0 rfl rfl ?_
  refine uv_iconst O dX5_add_28 (nI 1) rfl ?_
  refine uv_iadd O dX5_add_29 ?_
  refine uv_put O dX5_add_30 0 rfl rfl ux_5 tyX5 tyX5_ok nmX5 1 (Nat.le_of_ble_eq_true rfl) (uq_in (by decide +kernel) (by decide +kernel)) rfl rfl (ty := .int) (by decide +kernel) rfl rfl (Nat.le_of_ble_eq_true rfl) ?_
  refine uv_eq (ws' := mka_1 Z a r v) (by show [_, _] = [_, _]; rw [show (0 : Int32) + nI 1 = nI 1 from by decide +kernel]; rfl) ?_
  exact fin () _ _ dX5_add_33
abbrev bkX (Z : ZT) (a p1 p2 p3 p4 p5 p6 p7 p8 : Nat) (f1 f2 f3 f4 : Nat → Option Nat) : va_W := [(a, .inr (0, [.ref p1, .int 0, .ref p2, .ref p3, .ref p4, .int 0, .ref p5, .ref p7])), (p1, .inl (zc Z 6, (20, .inr (.inr (.inr (.inr f1)))))), (p2, .inl (zc Z 3, (32, .inr (.inr (.inr (.inr f2)))))), (p3, .inl (zc Z 7, (3, .inr (.inr (.inr (.inr f3)))))), (p4, .inl (zc Z 2, (5, .inr (.inr (.inr (.inr f4)))))), (p5, .inr (5, [.ref p6, .int 0])), (p6, .inl (zc Z 0, (50, .inl (fun _ => 0)))), (p7, .inr (2, [.int (-nI 1), .int 0, .int 0, .ref p8])), (p8, .inl (zc Z 1, (6, .inl (fun _ => 0))))]
def bW (Z : ZT) (f : Nat → Nat) (j : Nat) : va_W := [((f 0), .inr (10, [.int (nI j), .ref (f 1), .int 0, .int 0, .int 0])), (f 1, .inr (5, [.ref (f 2), .int 0])), (f 2, .inl (zc Z 0, (6, .inl (fun _ => 0))))]
def bE (Z : ZT) (f : Nat → Nat) (_ : Nat) : va_W := [(f 0, .inr (5, [.ref (f 1), .int 0])), (f 1, .inl (zc Z 0, (3, .inl (fun _ => 0))))]
def uL (j : Nat) : Int32 := if j = 0 then nI 111 else if j = 1 then nI 97 else nI 101
def bG (Z : ZT) (f : Nat → Nat) (j : Nat) : va_W := mka_1 Z (f 0) (f 1) (uL j)
def bF (Z : ZT) (f : Nat → Nat) (_ : Nat) : va_W := mk3_1 Z (f 0) (f 1) (f 2) (f 3) (f 4) (f 5)
theorem bW_loc (Z : ZT) : ∀ f g j, (∀ r, r < 3 → f r = g r) → bW Z f j = bW Z g j := by
  intro f g j h
  unfold bW
  simp only [h 0 (by omega), h 1 (by omega), h 2 (by omega)]
theorem bE_loc (Z : ZT) : ∀ f g j, (∀ r, r < 2 → f r = g r) → bE Z f j = bE Z g j := by
  intro f g j h
  unfold bE
  simp only [h 0 (by omega), h 1 (by omega)]
theorem bG_loc (Z : ZT) : ∀ f g j, (∀ r, r < 2 → f r = g r) → bG Z f j = bG Z g j := by
  intro f g j h
  unfold bG
  simp only [h 0 (by omega), h 1 (by omega)]
theorem bF_loc (Z : ZT) : ∀ f g j, (∀ r, r < 6 → f r = g r) → bF Z f j = bF Z g j := by
  intro f g j h
  unfold bF
  simp only [h 0 (by omega), h 1 (by omega), h 2 (by omega), h 3 (by omega), h 4 (by omega), h 5 (by omega)]
