abbrev pmA (Z : ZT) (a : Nat) (p : Nat → Nat) : va_W := [(a, .inr (11, [.ref (p 0), .ref (p 28), .ref (p 29), .int 0, .ref (p 2), .ref (p 9), .ref (p 11), .ref (p 17), .ref (p 20), .ref (p 26), .ref (p 27)])), (p 0, .inr (5, [.ref (p 1), .int 0])), (p 1, .inl (zc Z 0, (50, .inl (fun _ => 0))))]
abbrev pmB (Z : ZT) (p : Nat → Nat) (f1 f2 : Nat → Option Nat) : va_W := [(p 2, .inr (4, [.ref (p 3), .int 0])), (p 3, .inr (3, [.int 0, .ref (p 4), .ref (p 5), .ref (p 6), .ref (p 7), .ref (p 8)])), (p 4, .inl (zc Z 1, (6, .inl (fun _ => 0)))), (p 5, .inl (zc Z 1, (6, .inl (fun _ => 0)))), (p 6, .inl (zc Z 1, (6, .inl (fun _ => 0)))), (p 7, .inl (zc Z 1, (6, .inl (fun _ => 0)))), (p 8, .inl (zc Z 1, (3, .inl (fun _ => 0)))), (p 9, .inr (5, [.ref (p 10), .int 0])), (p 10, .inl (zc Z 0, (10, .inl (fun _ => 0)))), (p 11, .inr (8, [.ref (p 12), .ref (p 14), .ref (p 16), .int 0])), (p 12, .inr (5, [.ref (p 13), .int 0])), (p 13, .inl (zc Z 0, (10, .inl (fun _ => 0)))), (p 14, .inr (5, [.ref (p 15), .int 0])), (p 15, .inl (zc Z 0, (66, .inl (fun _ => 0)))), (p 16, .inl (zc Z 1, (6, .inl (fun _ => 0)))), (p 17, .inr (1, [.ref (p 18), .int 0])), (p 18, .inr (2, [.int (-nI 1), .int 0, .int 0, .ref (p 19)])), (p 19, .inl (zc Z 1, (6, .inl (fun _ => 0)))), (p 20, .inr (6, [.ref (p 21), .ref (p 23), .ref (p 24), .int 0, .ref (p 25), .int 0, .int 0, .int 0, .int 0, .int 0])), (p 21, .inr (5, [.ref (p 22), .int 0])), (p 22, .inl (zc Z 0, (10, .inl (fun _ => 0)))), (p 23, .inl (zc Z 1, (6, .inl (fun _ => 0)))), (p 24, .inl (zc Z 1, (6, .inl (fun _ => 0)))), (p 25, .inl (zc Z 1, (11, .inl (fun _ => 0)))), (p 26, .inl (zc Z 4, (4, .inr (.inr (.inr (.inr f1)))))), (p 27, .inl (zc Z 5, (4, .inr (.inr (.inr (.inr f2))))))]
/-- the addresses of all cells -/
def zaM (a b : Nat) (u : S11) (v : Nat → Nat) (i : Nat) : Nat := if i < 3 then uF [a, u.1 0, u.1 1] i else if i < 172 then zb (u.1 28) u.2.1 (i - 3) else if i < 341 then zb (u.1 29) u.2.2.1 (i - 172) else if i < 367 then u.1 (i - 341 + 2) else if i < 375 then u.2.2.2.1 (i - 367) else if i < 383 then u.2.2.2.2 (i - 375) else if i = 383 then b else v (i - 384)
theorem uU4 (x : Int32) : upd (upd (upd (upd (fun _ => 0) 0 x) 1 x) 2 x) 3 x = fun k => if k < 4 then x else 0 := by
  funext k
  unfold upd
  by_cases h : k < 4
  · rw [if_pos h]
    rcases (show k = 0 ∨ k = 1 ∨ k = 2 ∨ k = 3 by omega) with rfl | rfl | rfl | rfl <;> rfl
  · rw [if_neg h, if_neg (by omega), if_neg (by omega), if_neg (by omega), if_neg (by omega)]
section UALL
variable {Z : ZT} {a b : Nat} {u : S11} {v : Nat → Nat}
theorem zs_A (h : ∀ i, za Z i = zaM a b u v i) : pmA Z a u.1 = seg Z zM0 0 3 := by
  have E0 : ent Z zM0 0 = .inr (11, [.ref (za Z 1), .ref (za Z 3), .ref (za Z 172), .int 0, .ref (za Z 341), .ref (za Z 348), .ref (za Z 350), .ref (za Z 356), .ref (za Z 359), .ref (za Z 365), .ref (za Z 366)]) := by
    rw [ent_obj (ci := 11) (by decide +kernel) (by decide), zM_z (by unfold zSp; omega)]
    rfl
  have E1 : ent Z zM0 1 = .inr (5, [.ref (za Z 2), .int 0]) := by
    rw [ent_obj (ci := 5) (by decide +kernel) (by decide), zM_z (by unfold zSp; omega)]
    rfl
  have E2 : ent Z zM0 2 = .inl (zc Z 0, (50, .inl (fun _ => 0))) := by rw [ent_byte (by decide +kernel), show ln 2 = 50 from (by decide +kernel), zM_z (by unfold zSp; omega)]
  have a0 : za Z 0 = a := h 0
  have a1 : za Z 1 = u.1 0 := h 1
  have a2 : za Z 2 = u.1 1 := h 2
  have a3 : za Z 3 = u.1 28 := h 3
  have a172 : za Z 172 = u.1 29 := h 172
  have a341 : za Z 341 = u.1 2 := h 341
  have a348 : za Z 348 = u.1 9 := h 348
  have a350 : za Z 350 = u.1 11 := h 350
  have a356 : za Z 356 = u.1 17 := h 356
  have a359 : za Z 359 = u.1 20 := h 359
  have a365 : za Z 365 = u.1 26 := h 365
  have a366 : za Z 366 = u.1 27 := h 366
  show _ = [(za Z 0, ent Z zM0 0), (za Z 1, ent Z zM0 1), (za Z 2, ent Z zM0 2)]
  rw [E0, E1, E2, a0, a1, a2, a3, a172, a341, a348, a350, a356, a359, a365, a366]
theorem zs_B (h : ∀ i, za Z i = zaM a b u v i) : uR (pmB Z u.1 (uA 2 u.2.2.2.1 4) (uA 2 u.2.2.2.2 4)) (seg Z zM0 341 26) := by
  have E341 : ent Z zM0 341 = .inr (4, [.ref (za Z 342), .int 0]) := by
    rw [ent_obj (ci := 4) (by decide +kernel) (by decide), zM_z (by unfold zSp; omega)]
    rfl
  have E342 : ent Z zM0 342 = .inr (3, [.int 0, .ref (za Z 343), .ref (za Z 344), .ref (za Z 345), .ref (za Z 346), .ref (za Z 347)]) := by
    rw [ent_obj (ci := 3) (by decide +kernel) (by decide), zM_z (by unfold zSp; omega)]
    rfl
  have E343 : ent Z zM0 343 = .inl (zc Z 1, (6, .inl (fun _ => 0))) := by rw [ent_int (by decide +kernel), show ln 343 = 6 from (by decide +kernel), zM_z (by unfold zSp; omega)]
  have E344 : ent Z zM0 344 = .inl (zc Z 1, (6, .inl (fun _ => 0))) := by rw [ent_int (by decide +kernel), show ln 344 = 6 from (by decide +kernel), zM_z (by unfold zSp; omega)]
  have E345 : ent Z zM0 345 = .inl (zc Z 1, (6, .inl (fun _ => 0))) := by rw [ent_int (by decide +kernel), show ln 345 = 6 from (by decide +kernel), zM_z (by unfold zSp; omega)]
  have E346 : ent Z zM0 346 = .inl (zc Z 1, (6, .inl (fun _ => 0))) := by rw [ent_int (by decide +kernel), show ln 346 = 6 from (by decide +kernel), zM_z (by unfold zSp; omega)]
  have E347 : ent Z zM0 347 = .inl (zc Z 1, (3, .inl (fun _ => 0))) := by rw [ent_int (by decide +kernel), show ln 347 = 3 from (by decide +kernel), zM_z (by unfold zSp; omega)]
  have E348 : ent Z zM0 348 = .inr (5, [.ref (za Z 349), .int 0]) := by
    rw [ent_obj (ci := 5) (by decide +kernel) (by decide), zM_z (by unfold zSp; omega)]
    rfl
  have E349 : ent Z zM0 349 = .inl (zc Z 0, (10, .inl (fun _ => 0))) := by rw [ent_byte (by decide +kernel), show ln 349 = 10 from (by decide +kernel), zM_z (by unfold zSp; omega)]
  have E350 : ent Z zM0 350 = .inr (8, [.ref (za Z 351), .ref (za Z 353), .ref (za Z 355), .int 0]) := by
    rw [ent_obj (ci := 8) (by decide +kernel) (by decide), zM_z (by unfold zSp; omega)]
    rfl
  have E351 : ent Z zM0 351 = .inr (5, [.ref (za Z 352), .int 0]) := by
    rw [ent_obj (ci := 5) (by decide +kernel) (by decide), zM_z (by unfold zSp; omega)]
    rfl
  have E352 : ent Z zM0 352 = .inl (zc Z 0, (10, .inl (fun _ => 0))) := by rw [ent_byte (by decide +kernel), show ln 352 = 10 from (by decide +kernel), zM_z (by unfold zSp; omega)]
  have E353 : ent Z zM0 353 = .inr (5, [.ref (za Z 354), .int 0]) := by
    rw [ent_obj (ci := 5) (by decide +kernel) (by decide), zM_z (by unfold zSp; omega)]
    rfl
  have E354 : ent Z zM0 354 = .inl (zc Z 0, (66, .inl (fun _ => 0))) := by rw [ent_byte (by decide +kernel), show ln 354 = 66 from (by decide +kernel), zM_z (by unfold zSp; omega)]
  have E355 : ent Z zM0 355 = .inl (zc Z 1, (6, .inl (fun _ => 0))) := by rw [ent_int (by decide +kernel), show ln 355 = 6 from (by decide +kernel), zM_z (by unfold zSp; omega)]
  have E356 : ent Z zM0 356 = .inr (1, [.ref (za Z 357), .int 0]) := by
    rw [ent_obj (ci := 1) (by decide +kernel) (by decide), zM_z (by unfold zSp; omega)]
    rfl
  have E357 : ent Z zM0 357 = .inr (2, [.int (-nI 1), .int 0, .int 0, .ref (za Z 358)]) := by
    rw [ent_obj (ci := 2) (by decide +kernel) (by decide), zM_m (by omega)]
    rfl
  have E358 : ent Z zM0 358 = .inl (zc Z 1, (6, .inl (fun _ => 0))) := by rw [ent_int (by decide +kernel), show ln 358 = 6 from (by decide +kernel), zM_z (by unfold zSp; omega)]
  have E359 : ent Z zM0 359 = .inr (6, [.ref (za Z 360), .ref (za Z 362), .ref (za Z 363), .int 0, .ref (za Z 364), .int 0, .int 0, .int 0, .int 0, .int 0]) := by
    rw [ent_obj (ci := 6) (by decide +kernel) (by decide), zM_z (by unfold zSp; omega)]
    rfl
  have E360 : ent Z zM0 360 = .inr (5, [.ref (za Z 361), .int 0]) := by
    rw [ent_obj (ci := 5) (by decide +kernel) (by decide), zM_z (by unfold zSp; omega)]
    rfl
  have E361 : ent Z zM0 361 = .inl (zc Z 0, (10, .inl (fun _ => 0))) := by rw [ent_byte (by decide +kernel), show ln 361 = 10 from (by decide +kernel), zM_z (by unfold zSp; omega)]
  have E362 : ent Z zM0 362 = .inl (zc Z 1, (6, .inl (fun _ => 0))) := by rw [ent_int (by decide +kernel), show ln 362 = 6 from (by decide +kernel), zM_z (by unfold zSp; omega)]
  have E363 : ent Z zM0 363 = .inl (zc Z 1, (6, .inl (fun _ => 0))) := by rw [ent_int (by decide +kernel), show ln 363 = 6 from (by decide +kernel), zM_z (by unfold zSp; omega)]
  have E364 : ent Z zM0 364 = .inl (zc Z 1, (11, .inl (fun _ => 0))) := by rw [ent_int (by decide +kernel), show ln 364 = 11 from (by decide +kernel), zM_z (by unfold zSp; omega)]
  have E365 : ent Z zM0 365 = .inl (zc Z 4, (4, .inr (.inr (.inr (.inr (fun j => some (za Z (el 365 j)))))))) := by rw [ent_ref (c := 24) (by decide +kernel) (by decide), show ln 365 = 4 from (by decide +kernel)]
  have E366 : ent Z zM0 366 = .inl (zc Z 5, (4, .inr (.inr (.inr (.inr (fun j => some (za Z (el 366 j)))))))) := by rw [ent_ref (c := 25) (by decide +kernel) (by decide), show ln 366 = 4 from (by decide +kernel)]
  have a341 : za Z 341 = u.1 2 := h 341
  have a342 : za Z 342 = u.1 3 := h 342
  have a343 : za Z 343 = u.1 4 := h 343
  have a344 : za Z 344 = u.1 5 := h 344
  have a345 : za Z 345 = u.1 6 := h 345
  have a346 : za Z 346 = u.1 7 := h 346
  have a347 : za Z 347 = u.1 8 := h 347
  have a348 : za Z 348 = u.1 9 := h 348
  have a349 : za Z 349 = u.1 10 := h 349
  have a350 : za Z 350 = u.1 11 := h 350
  have a351 : za Z 351 = u.1 12 := h 351
  have a352 : za Z 352 = u.1 13 := h 352
  have a353 : za Z 353 = u.1 14 := h 353
  have a354 : za Z 354 = u.1 15 := h 354
  have a355 : za Z 355 = u.1 16 := h 355
  have a356 : za Z 356 = u.1 17 := h 356
  have a357 : za Z 357 = u.1 18 := h 357
  have a358 : za Z 358 = u.1 19 := h 358
  have a359 : za Z 359 = u.1 20 := h 359
  have a360 : za Z 360 = u.1 21 := h 360
  have a361 : za Z 361 = u.1 22 := h 361
  have a362 : za Z 362 = u.1 23 := h 362
  have a363 : za Z 363 = u.1 24 := h 363
  have a364 : za Z 364 = u.1 25 := h 364
  have a365 : za Z 365 = u.1 26 := h 365
  have a366 : za Z 366 = u.1 27 := h 366
  have s9 : seg Z zM0 341 26 = [(za Z 341, ent Z zM0 341), (za Z 342, ent Z zM0 342), (za Z 343, ent Z zM0 343), (za Z 344, ent Z zM0 344), (za Z 345, ent Z zM0 345), (za Z 346, ent Z zM0 346), (za Z 347, ent Z zM0 347), (za Z 348, ent Z zM0 348), (za Z 349, ent Z zM0 349), (za Z 350, ent Z zM0 350), (za Z 351, ent Z zM0 351), (za Z 352, ent Z zM0 352), (za Z 353, ent Z zM0 353), (za Z 354, ent Z zM0 354), (za Z 355, ent Z zM0 355), (za Z 356, ent Z zM0 356), (za Z 357, ent Z zM0 357), (za Z 358, ent Z zM0 358), (za Z 359, ent Z zM0 359), (za Z 360, ent Z zM0 360), (za Z 361, ent Z zM0 361), (za Z 362, ent Z zM0 362), (za Z 363, ent Z zM0 363), (za Z 364, ent Z zM0 364), (za Z 365, ent Z zM0 365), (za Z 366, ent Z zM0 366)] := rfl
  rw [s9, E341, E342, E343, E344, E345, E346, E347, E348, E349, E350, E351, E352, E353, E354, E355, E356, E357, E358, E359, E360, E361, E362, E363, E364, E365, E366]
  rw [a341, a342, a343, a344, a345, a346, a347, a348, a349, a350, a351, a352, a353, a354, a355, a356, a357, a358, a359, a360, a361, a362, a363, a364, a365, a366]
  exact uR.cons _ (uR.cons _ (uR.cons _ (uR.cons _ (uR.cons _ (uR.cons _ (uR.cons _ (uR.cons _ (uR.cons _ (uR.cons _ (uR.cons _ (uR.cons _ (uR.cons _ (uR.cons _ (uR.cons _ (uR.cons _ (uR.cons _ (uR.cons _ (uR.cons _ (uR.cons _ (uR.cons _ (uR.cons _ (uR.cons _ (uR.cons _ (uR.consA (fun j hj => by unfold uA; rw [if_pos hj, el_24 (i := 365) (by decide +kernel), h (365 + 2 + 2 * j)]; unfold zaM; rw [if_neg (by omega), if_neg (by omega), if_neg (by omega), if_neg (by omega), if_pos (by omega), show 365 + 2 + 2 * j - 367 = 2 * j by omega]) (uR.consA (fun j hj => by unfold uA; rw [if_pos hj, el_25 (i := 366) (by decide +kernel), h (366 + 9 + 2 * j)]; unfold zaM; rw [if_neg (by omega), if_neg (by omega), if_neg (by omega), if_neg (by omega), if_neg (by omega), if_pos (by omega), show 366 + 9 + 2 * j - 375 = 2 * j by omega]) (uR.rf _))))))))))))))))))))))))))
theorem zk_S {j : Nat} (hj : j < 4) : kn (367 + 2 * j + 0) = 7 ∧ kn (367 + 2 * j + 1) = 21 ∧ ln (367 + 2 * j + 1) = 40 := (by decide +kernel : ∀ j : Fin 4, kn (367 + 2 * j.1 + 0) = 7 ∧ kn (367 + 2 * j.1 + 1) = 21 ∧ ln (367 + 2 * j.1 + 1) = 40) ⟨j, hj⟩
theorem zs_S (h : ∀ i, za Z i = zaM a b u v i) : uT (bS Z) 2 u.2.2.2.1 4 = seg Z zM0 367 (2 * 4) := by
  refine seg_uT 4 (fun j hj => ?_)
  obtain ⟨k0, k1, l1⟩ := zk_S hj
  have a0 : za Z (367 + 2 * j + 0) = u.2.2.2.1 (2 * j + 0) := by
    rw [h]
    unfold zaM
    rw [if_neg (by omega), if_neg (by omega), if_neg (by omega), if_neg (by omega), if_pos (by omega), show 367 + 2 * j + 0 - 367 = 2 * j + 0 by omega]
  have a1 : za Z (367 + 2 * j + 1) = u.2.2.2.1 (2 * j + 1) := by
    rw [h]
    unfold zaM
    rw [if_neg (by omega), if_neg (by omega), if_neg (by omega), if_neg (by omega), if_pos (by omega), show 367 + 2 * j + 1 - 367 = 2 * j + 1 by omega]
  have E0 : ent Z zM0 (367 + 2 * j + 0) = .inr (7, [.int (-nI 1), .int 0, .ref (u.2.2.2.1 (2 * j + 1))]) := by
    rw [ent_obj k0 (by decide), zM_m (by omega), ← a1]
    rfl
  have E1 : ent Z zM0 (367 + 2 * j + 1) = .inl (zc Z 1, (40, .inl (fun _ => 0))) := by rw [ent_int k1, l1, zM_z (by unfold zSp; omega)]
  show _ = [(za Z (367 + 2 * j + 0), ent Z zM0 (367 + 2 * j + 0)), (za Z (367 + 2 * j + 1), ent Z zM0 (367 + 2 * j + 1))]
  rw [E0, E1, a0, a1]
  rfl
theorem zk_Y {j : Nat} (hj : j < 4) : kn (375 + 2 * j + 0) = 9 ∧ kn (375 + 2 * j + 1) = 21 ∧ ln (375 + 2 * j + 1) = 20 := (by decide +kernel : ∀ j : Fin 4, kn (375 + 2 * j.1 + 0) = 9 ∧ kn (375 + 2 * j.1 + 1) = 21 ∧ ln (375 + 2 * j.1 + 1) = 20) ⟨j, hj⟩
theorem zs_Y (h : ∀ i, za Z i = zaM a b u v i) : uT (bY Z) 2 u.2.2.2.2 4 = seg Z zM0 375 (2 * 4) := by
  refine seg_uT 4 (fun j hj => ?_)
  obtain ⟨k0, k1, l1⟩ := zk_Y hj
  have a0 : za Z (375 + 2 * j + 0) = u.2.2.2.2 (2 * j + 0) := by
    rw [h]
    unfold zaM
    rw [if_neg (by omega), if_neg (by omega), if_neg (by omega), if_neg (by omega), if_neg (by omega), if_pos (by omega), show 375 + 2 * j + 0 - 375 = 2 * j + 0 by omega]
  have a1 : za Z (375 + 2 * j + 1) = u.2.2.2.2 (2 * j + 1) := by
    rw [h]
    unfold zaM
    rw [if_neg (by omega), if_neg (by omega), if_neg (by omega), if_neg (by omega), if_neg (by omega), if_pos (by omega), show 375 + 2 * j + 1 - 375 = 2 * j + 1 by omega]
  have E0 : ent Z zM0 (375 + 2 * j + 0) = .inr (9, [.int (-nI 1), .int 0, .ref (u.2.2.2.2 (2 * j + 1))]) := by
    rw [ent_obj k0 (by decide), zM_m (by omega), ← a1]
    rfl
  have E1 : ent Z zM0 (375 + 2 * j + 1) = .inl (zc Z 1, (20, .inl (fun _ => 0))) := by rw [ent_int k1, l1, zM_z (by unfold zSp; omega)]
  show _ = [(za Z (375 + 2 * j + 0), ent Z zM0 (375 + 2 * j + 0)), (za Z (375 + 2 * j + 1), ent Z zM0 (375 + 2 * j + 1))]
  rw [E0, E1, a0, a1]
  rfl
theorem zs_1 (h : ∀ i, za Z i = zaM a b u v i) : uR (mk0_1 Z (u.1 28) u.2.1) (seg Z zM0 3 169) := uR_book (Or.inl rfl) (fun j hj => by rw [h]; unfold zaM; rw [if_neg (by omega), if_pos (by omega), show 3 + j - 3 = j by omega])
theorem zs_2 (h : ∀ i, za Z i = zaM a b u v i) : uR (mk0_1 Z (u.1 29) u.2.2.1) (seg Z zM0 172 169) := uR_book (Or.inr rfl) (fun j hj => by rw [h]; unfold zaM; rw [if_neg (by omega), if_neg (by omega), if_pos (by omega), show 172 + j - 172 = j by omega])
theorem wl_cut : wlB Z zM0 = seg Z zM0 0 3 ++ (seg Z zM0 3 169 ++ (seg Z zM0 172 169 ++ (seg Z zM0 341 26 ++ (seg Z zM0 367 (2 * 4) ++ seg Z zM0 375 (2 * 4))))) := by
  rw [← seg_add Z zM0 367 (2 * 4) (2 * 4), ← seg_add Z zM0 341 26 _, ← seg_add Z zM0 172 169 _, ← seg_add Z zM0 3 169 _, ← seg_add Z zM0 0 3 _]
  exact (seg_wl Z zM0).symm
theorem zs_all (h : ∀ i, za Z i = zaM a b u v i) : ∃ S, (mk11_1 Z a u).Perm S ∧ uR S (wlB Z zM0) := by
  refine ⟨pmA Z a u.1 ++ (mk0_1 Z (u.1 28) u.2.1 ++ (mk0_1 Z (u.1 29) u.2.2.1 ++ (pmB Z u.1 (uA 2 u.2.2.2.1 4) (uA 2 u.2.2.2.2 4) ++ (uT (bS Z) 2 u.2.2.2.1 4 ++ uT (bY Z) 2 u.2.2.2.2 4)))), ?_, ?_⟩
  · show ((pmA Z a u.1 ++ pmB Z u.1 (uA 2 u.2.2.2.1 4) (uA 2 u.2.2.2.2 4)) ++ (((([] ++ mk0_1 Z (u.1 28) u.2.1) ++ mk0_1 Z (u.1 29) u.2.2.1) ++ uT (bS Z) 2 u.2.2.2.1 4) ++ uT (bY Z) 2 u.2.2.2.2 4)).Perm _
    generalize mk0_1 Z (u.1 28) u.2.1 = b1
    generalize mk0_1 Z (u.1 29) u.2.2.1 = b2
    generalize pmA Z a u.1 = x1
    generalize pmB Z u.1 (uA 2 u.2.2.2.1 4) (uA 2 u.2.2.2.2 4) = x2
    generalize uT (bS Z) 2 u.2.2.2.1 4 = x3
    generalize uT (bY Z) 2 u.2.2.2.2 4 = x4
    simp only [List.nil_append, List.append_assoc]
    refine List.Perm.append_left x1 ?_
    exact (List.perm_append_comm_assoc x2 b1 _).trans (List.Perm.append_left b1 (List.perm_append_comm_assoc x2 b2 _))
  · rw [wl_cut]
    exact uR.app (uR.of (zs_A h)) (uR.app (zs_1 h) (uR.app (zs_2 h) (uR.app (zs_B h) (uR.app (uR.of (zs_S h)) (uR.of (zs_Y h))))))
end UALL
