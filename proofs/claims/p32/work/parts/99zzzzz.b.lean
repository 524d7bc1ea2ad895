/-- the addresses of a book's cells, by their places in it -/
def zb (b : Nat) (u : S0) (j : Nat) : Nat := if j < 9 then uF [b, u.1.1, u.1.2.1, u.1.2.2.1, u.1.2.2.2.1, u.1.2.2.2.2.1, u.1.2.2.2.2.2.1, u.1.2.2.2.2.2.2.1, u.1.2.2.2.2.2.2.2] j else if j < 69 then u.2.1 (j - 9) else if j < 133 then u.2.2.1 (j - 69) else if j < 139 then u.2.2.2.1 (j - 133) else u.2.2.2.2 (j - 139)
section UBK
variable {Z : ZT} {B b : Nat} {u : S0}
theorem zb_w (hB : B = 3 ∨ B = 172) (h : ∀ j, j < 169 → za Z (B + j) = zb b u j) {j r : Nat} (hj : j < 20) (hr : r < 3) : za Z (B + 9 + 3 * j + r) = u.2.1 (3 * j + r) := by
  rw [show B + 9 + 3 * j + r = B + (9 + 3 * j + r) by omega, h _ (by omega)]
  unfold zb
  rw [if_neg (by omega), if_pos (by omega), show 9 + 3 * j + r - 9 = 3 * j + r by omega]
theorem zb_e (hB : B = 3 ∨ B = 172) (h : ∀ j, j < 169 → za Z (B + j) = zb b u j) {j r : Nat} (hj : j < 32) (hr : r < 2) : za Z (B + 69 + 2 * j + r) = u.2.2.1 (2 * j + r) := by
  rw [show B + 69 + 2 * j + r = B + (69 + 2 * j + r) by omega, h _ (by omega)]
  unfold zb
  rw [if_neg (by omega), if_neg (by omega), if_pos (by omega), show 69 + 2 * j + r - 69 = 2 * j + r by omega]
theorem zb_g (hB : B = 3 ∨ B = 172) (h : ∀ j, j < 169 → za Z (B + j) = zb b u j) {j r : Nat} (hj : j < 3) (hr : r < 2) : za Z (B + 133 + 2 * j + r) = u.2.2.2.1 (2 * j + r) := by
  rw [show B + 133 + 2 * j + r = B + (133 + 2 * j + r) by omega, h _ (by omega)]
  unfold zb
  rw [if_neg (by omega), if_neg (by omega), if_neg (by omega), if_pos (by omega), show 133 + 2 * j + r - 133 = 2 * j + r by omega]
theorem zb_f (hB : B = 3 ∨ B = 172) (h : ∀ j, j < 169 → za Z (B + j) = zb b u j) {j r : Nat} (hj : j < 5) (hr : r < 6) : za Z (B + 139 + 6 * j + r) = u.2.2.2.2 (6 * j + r) := by
  rw [show B + 139 + 6 * j + r = B + (139 + 6 * j + r) by omega, h _ (by omega)]
  unfold zb
  rw [if_neg (by omega), if_neg (by omega), if_neg (by omega), if_neg (by omega), show 139 + 6 * j + r - 139 = 6 * j + r by omega]
theorem zk_w (hB : B = 3 ∨ B = 172) {j : Nat} (hj : j < 20) : kn (B + 9 + 3 * j + 0) = 10 ∧ kn (B + 9 + 3 * j + 1) = 5 ∧ kn (B + 9 + 3 * j + 2) = 20 ∧ ln (B + 9 + 3 * j + 2) = 6 := by
  rcases hB with rfl | rfl
  · exact (by decide +kernel : ∀ j : Fin 20, kn (3 + 9 + 3 * j.1 + 0) = 10 ∧ kn (3 + 9 + 3 * j.1 + 1) = 5 ∧ kn (3 + 9 + 3 * j.1 + 2) = 20 ∧ ln (3 + 9 + 3 * j.1 + 2) = 6) ⟨j, hj⟩
  · exact (by decide +kernel : ∀ j : Fin 20, kn (172 + 9 + 3 * j.1 + 0) = 10 ∧ kn (172 + 9 + 3 * j.1 + 1) = 5 ∧ kn (172 + 9 + 3 * j.1 + 2) = 20 ∧ ln (172 + 9 + 3 * j.1 + 2) = 6) ⟨j, hj⟩
theorem zk_e (hB : B = 3 ∨ B = 172) {j : Nat} (hj : j < 32) : kn (B + 69 + 2 * j + 0) = 5 ∧ kn (B + 69 + 2 * j + 1) = 20 ∧ ln (B + 69 + 2 * j + 1) = 3 := by
  rcases hB with rfl | rfl
  · exact (by decide +kernel : ∀ j : Fin 32, kn (3 + 69 + 2 * j.1 + 0) = 5 ∧ kn (3 + 69 + 2 * j.1 + 1) = 20 ∧ ln (3 + 69 + 2 * j.1 + 1) = 3) ⟨j, hj⟩
  · exact (by decide +kernel : ∀ j : Fin 32, kn (172 + 69 + 2 * j.1 + 0) = 5 ∧ kn (172 + 69 + 2 * j.1 + 1) = 20 ∧ ln (172 + 69 + 2 * j.1 + 1) = 3) ⟨j, hj⟩
theorem zk_g (hB : B = 3 ∨ B = 172) {j : Nat} (hj : j < 3) : kn (B + 133 + 2 * j + 0) = 5 ∧ kn (B + 133 + 2 * j + 1) = 20 ∧ ln (B + 133 + 2 * j + 1) = 1 := by
  rcases hB with rfl | rfl
  · exact (by decide +kernel : ∀ j : Fin 3, kn (3 + 133 + 2 * j.1 + 0) = 5 ∧ kn (3 + 133 + 2 * j.1 + 1) = 20 ∧ ln (3 + 133 + 2 * j.1 + 1) = 1) ⟨j, hj⟩
  · exact (by decide +kernel : ∀ j : Fin 3, kn (172 + 133 + 2 * j.1 + 0) = 5 ∧ kn (172 + 133 + 2 * j.1 + 1) = 20 ∧ ln (172 + 133 + 2 * j.1 + 1) = 1) ⟨j, hj⟩
theorem zk_f (hB : B = 3 ∨ B = 172) {j : Nat} (hj : j < 5) : kn (B + 139 + 6 * j + 0) = 3 ∧ kn (B + 139 + 6 * j + 1) = 21 ∧ kn (B + 139 + 6 * j + 2) = 21 ∧ kn (B + 139 + 6 * j + 3) = 21 ∧ kn (B + 139 + 6 * j + 4) = 21 ∧ kn (B + 139 + 6 * j + 5) = 21 ∧ ln (B + 139 + 6 * j + 1) = 6 ∧ ln (B + 139 + 6 * j + 2) = 6 ∧ ln (B + 139 + 6 * j + 3) = 6 ∧ ln (B + 139 + 6 * j + 4) = 6 ∧ ln (B + 139 + 6 * j + 5) = 3 := by
  rcases hB with rfl | rfl
  · exact (by decide +kernel : ∀ j : Fin 5, kn (3 + 139 + 6 * j.1 + 0) = 3 ∧ kn (3 + 139 + 6 * j.1 + 1) = 21 ∧ kn (3 + 139 + 6 * j.1 + 2) = 21 ∧ kn (3 + 139 + 6 * j.1 + 3) = 21 ∧ kn (3 + 139 + 6 * j.1 + 4) = 21 ∧ kn (3 + 139 + 6 * j.1 + 5) = 21 ∧ ln (3 + 139 + 6 * j.1 + 1) = 6 ∧ ln (3 + 139 + 6 * j.1 + 2) = 6 ∧ ln (3 + 139 + 6 * j.1 + 3) = 6 ∧ ln (3 + 139 + 6 * j.1 + 4) = 6 ∧ ln (3 + 139 + 6 * j.1 + 5) = 3) ⟨j, hj⟩
  · exact (by decide +kernel : ∀ j : Fin 5, kn (172 + 139 + 6 * j.1 + 0) = 3 ∧ kn (172 + 139 + 6 * j.1 + 1) = 21 ∧ kn (172 + 139 + 6 * j.1 + 2) = 21 ∧ kn (172 + 139 + 6 * j.1 + 3) = 21 ∧ kn (172 + 139 + 6 * j.1 + 4) = 21 ∧ kn (172 + 139 + 6 * j.1 + 5) = 21 ∧ ln (172 + 139 + 6 * j.1 + 1) = 6 ∧ ln (172 + 139 + 6 * j.1 + 2) = 6 ∧ ln (172 + 139 + 6 * j.1 + 3) = 6 ∧ ln (172 + 139 + 6 * j.1 + 4) = 6 ∧ ln (172 + 139 + 6 * j.1 + 5) = 3) ⟨j, hj⟩
theorem zs_w (hB : B = 3 ∨ B = 172) (h : ∀ j, j < 169 → za Z (B + j) = zb b u j) : uT (bW Z) 3 u.2.1 20 = seg Z zM0 (B + 9) (3 * 20) := by
  refine seg_uT 20 (fun j hj => ?_)
  obtain ⟨k0, k1, k2, l2⟩ := zk_w hB hj
  have a0 := zb_w hB h hj (r := 0) (by omega)
  have a1 := zb_w hB h hj (r := 1) (by omega)
  have a2 := zb_w hB h hj (r := 2) (by omega)
  have E0 : ent Z zM0 (B + 9 + 3 * j + 0) = .inr (10, [.int (nI j), .ref (u.2.1 (3 * j + 1)), .int 0, .int 0, .int 0]) := by
    rw [ent_obj k0 (by decide), zM_w hj (by omega)]
    show _ = _
    rw [← a1]
    rfl
  have E1 : ent Z zM0 (B + 9 + 3 * j + 1) = .inr (5, [.ref (u.2.1 (3 * j + 2)), .int 0]) := by
    rw [ent_obj k1 (by decide), (zM_z (by unfold zSp; omega))]
    show _ = _
    rw [← a2]
    rfl
  have E2 : ent Z zM0 (B + 9 + 3 * j + 2) = .inl (zc Z 0, (6, .inl (fun _ => 0))) := by rw [ent_byte k2, l2, (zM_z (by unfold zSp; omega))]
  show _ = [(za Z (B + 9 + 3 * j + 0), ent Z zM0 (B + 9 + 3 * j + 0)), (za Z (B + 9 + 3 * j + 1), ent Z zM0 (B + 9 + 3 * j + 1)), (za Z (B + 9 + 3 * j + 2), ent Z zM0 (B + 9 + 3 * j + 2))]
  rw [E0, E1, E2, a0, a1, a2]
  rfl
theorem zs_e (hB : B = 3 ∨ B = 172) (h : ∀ j, j < 169 → za Z (B + j) = zb b u j) : uT (bE Z) 2 u.2.2.1 32 = seg Z zM0 (B + 69) (2 * 32) := by
  refine seg_uT 32 (fun j hj => ?_)
  obtain ⟨k0, k1, l1⟩ := zk_e hB hj
  have a0 := zb_e hB h hj (r := 0) (by omega)
  have a1 := zb_e hB h hj (r := 1) (by omega)
  have E0 : ent Z zM0 (B + 69 + 2 * j + 0) = .inr (5, [.ref (u.2.2.1 (2 * j + 1)), .int 0]) := by
    rw [ent_obj k0 (by decide), (zM_z (by unfold zSp; omega))]
    show _ = _
    rw [← a1]
    rfl
  have E1 : ent Z zM0 (B + 69 + 2 * j + 1) = .inl (zc Z 0, (3, .inl (fun _ => 0))) := by rw [ent_byte k1, l1, (zM_z (by unfold zSp; omega))]
  show _ = [(za Z (B + 69 + 2 * j + 0), ent Z zM0 (B + 69 + 2 * j + 0)), (za Z (B + 69 + 2 * j + 1), ent Z zM0 (B + 69 + 2 * j + 1))]
  rw [E0, E1, a0, a1]
  rfl
theorem zs_g (hB : B = 3 ∨ B = 172) (h : ∀ j, j < 169 → za Z (B + j) = zb b u j) : uT (bG Z) 2 u.2.2.2.1 3 = seg Z zM0 (B + 133) (2 * 3) := by
  refine seg_uT 3 (fun j hj => ?_)
  obtain ⟨k0, k1, l1⟩ := zk_g hB hj
  have a0 := zb_g hB h hj (r := 0) (by omega)
  have a1 := zb_g hB h hj (r := 1) (by omega)
  have E0 : ent Z zM0 (B + 133 + 2 * j + 0) = .inr (5, [.ref (u.2.2.2.1 (2 * j + 1)), .int (nI 1)]) := by
    rw [ent_obj k0 (by decide), zM_g hj (by omega)]
    show _ = _
    rw [← a1]
    rfl
  have E1 : ent Z zM0 (B + 133 + 2 * j + 1) = .inl (zc Z 0, (1, .inl (upd (fun _ => 0) 0 (uL j).toInt8.toInt32.toInt8.toInt32))) := by rw [ent_byte k1, l1, zM_h hj (by omega), uL_b]; rfl
  show _ = [(za Z (B + 133 + 2 * j + 0), ent Z zM0 (B + 133 + 2 * j + 0)), (za Z (B + 133 + 2 * j + 1), ent Z zM0 (B + 133 + 2 * j + 1))]
  rw [E0, E1, a0, a1]
  rfl
theorem zs_f (hB : B = 3 ∨ B = 172) (h : ∀ j, j < 169 → za Z (B + j) = zb b u j) : uT (bF Z) 6 u.2.2.2.2 5 = seg Z zM0 (B + 139) (6 * 5) := by
  refine seg_uT 5 (fun j hj => ?_)
  obtain ⟨k0, k1, k2, k3, k4, k5, l1, l2, l3, l4, l5⟩ := zk_f hB hj
  have a0 := zb_f hB h hj (r := 0) (by omega)
  have a1 := zb_f hB h hj (r := 1) (by omega)
  have a2 := zb_f hB h hj (r := 2) (by omega)
  have a3 := zb_f hB h hj (r := 3) (by omega)
  have a4 := zb_f hB h hj (r := 4) (by omega)
  have a5 := zb_f hB h hj (r := 5) (by omega)
  have E0 : ent Z zM0 (B + 139 + 6 * j + 0) = .inr (3, [.int 0, .ref (u.2.2.2.2 (6 * j + 1)), .ref (u.2.2.2.2 (6 * j + 2)), .ref (u.2.2.2.2 (6 * j + 3)), .ref (u.2.2.2.2 (6 * j + 4)), .ref (u.2.2.2.2 (6 * j + 5))]) := by
    rw [ent_obj k0 (by decide), (zM_z (by unfold zSp; omega))]
    show _ = _
    rw [← a1, ← a2, ← a3, ← a4, ← a5]
    rfl
  have E1 : ent Z zM0 (B + 139 + 6 * j + 1) = .inl (zc Z 1, (6, .inl (fun _ => 0))) := by rw [ent_int k1, l1, (zM_z (by unfold zSp; omega))]
  have E2 : ent Z zM0 (B + 139 + 6 * j + 2) = .inl (zc Z 1, (6, .inl (fun _ => 0))) := by rw [ent_int k2, l2, (zM_z (by unfold zSp; omega))]
  have E3 : ent Z zM0 (B + 139 + 6 * j + 3) = .inl (zc Z 1, (6, .inl (fun _ => 0))) := by rw [ent_int k3, l3, (zM_z (by unfold zSp; omega))]
  have E4 : ent Z zM0 (B + 139 + 6 * j + 4) = .inl (zc Z 1, (6, .inl (fun _ => 0))) := by rw [ent_int k4, l4, (zM_z (by unfold zSp; omega))]
  have E5 : ent Z zM0 (B + 139 + 6 * j + 5) = .inl (zc Z 1, (3, .inl (fun _ => 0))) := by rw [ent_int k5, l5, (zM_z (by unfold zSp; omega))]
  show _ = [(za Z (B + 139 + 6 * j + 0), ent Z zM0 (B + 139 + 6 * j + 0)), (za Z (B + 139 + 6 * j + 1), ent Z zM0 (B + 139 + 6 * j + 1)), (za Z (B + 139 + 6 * j + 2), ent Z zM0 (B + 139 + 6 * j + 2)), (za Z (B + 139 + 6 * j + 3), ent Z zM0 (B + 139 + 6 * j + 3)), (za Z (B + 139 + 6 * j + 4), ent Z zM0 (B + 139 + 6 * j + 4)), (za Z (B + 139 + 6 * j + 5), ent Z zM0 (B + 139 + 6 * j + 5))]
  rw [E0, E1, E2, E3, E4, E5, a0, a1, a2, a3, a4, a5]
  rfl
theorem zk_x (hB : B = 3 ∨ B = 172) : kn (B + 0) = 0 ∧ kn (B + 1) = 26 ∧ kn (B + 2) = 23 ∧ kn (B + 3) = 27 ∧ kn (B + 4) = 22 ∧ kn (B + 5) = 5 ∧ kn (B + 6) = 20 ∧ kn (B + 7) = 2 ∧ kn (B + 8) = 21 ∧ ln (B + 1) = 20 ∧ ln (B + 2) = 32 ∧ ln (B + 3) = 3 ∧ ln (B + 4) = 5 ∧ ln (B + 6) = 50 ∧ ln (B + 8) = 6 := by
  rcases hB with rfl | rfl <;> decide +kernel
theorem zs_x (hB : B = 3 ∨ B = 172) (h : ∀ j, j < 169 → za Z (B + j) = zb b u j) : uR (bkX Z b u.1.1 u.1.2.1 u.1.2.2.1 u.1.2.2.2.1 u.1.2.2.2.2.1 u.1.2.2.2.2.2.1 u.1.2.2.2.2.2.2.1 u.1.2.2.2.2.2.2.2 (uA 3 u.2.1 20) (uA 2 u.2.2.1 32) (uA 2 u.2.2.2.1 3) (uA 6 u.2.2.2.2 5)) (seg Z zM0 B 9) := by
  obtain ⟨k0, k1, k2, k3, k4, k5, k6, k7, k8, l1, l2, l3, l4, l6, l8⟩ := zk_x hB
  have a0 : za Z (B + 0) = b := h 0 (by omega)
  have a1 : za Z (B + 1) = u.1.1 := h 1 (by omega)
  have a2 : za Z (B + 2) = u.1.2.1 := h 2 (by omega)
  have a3 : za Z (B + 3) = u.1.2.2.1 := h 3 (by omega)
  have a4 : za Z (B + 4) = u.1.2.2.2.1 := h 4 (by omega)
  have a5 : za Z (B + 5) = u.1.2.2.2.2.1 := h 5 (by omega)
  have a6 : za Z (B + 6) = u.1.2.2.2.2.2.1 := h 6 (by omega)
  have a7 : za Z (B + 7) = u.1.2.2.2.2.2.2.1 := h 7 (by omega)
  have a8 : za Z (B + 8) = u.1.2.2.2.2.2.2.2 := h 8 (by omega)
  have E0 : ent Z zM0 (B + 0) = .inr (0, [.ref (za Z (B + 1)), .int 0, .ref (za Z (B + 2)), .ref (za Z (B + 3)), .ref (za Z (B + 4)), .int 0, .ref (za Z (B + 5)), .ref (za Z (B + 7))]) := by
    rw [ent_obj k0 (by decide), (zM_z (by unfold zSp; omega))]
    rfl
  have E1 : ent Z zM0 (B + 1) = .inl (zc Z 6, (20, .inr (.inr (.inr (.inr (fun j => some (za Z (el (B + 1) j)))))))) := by rw [ent_ref k1 (by decide), l1]
  have E2 : ent Z zM0 (B + 2) = .inl (zc Z 3, (32, .inr (.inr (.inr (.inr (fun j => some (za Z (el (B + 2) j)))))))) := by rw [ent_ref k2 (by decide), l2]
  have E3 : ent Z zM0 (B + 3) = .inl (zc Z 7, (3, .inr (.inr (.inr (.inr (fun j => some (za Z (el (B + 3) j)))))))) := by rw [ent_ref k3 (by decide), l3]
  have E4 : ent Z zM0 (B + 4) = .inl (zc Z 2, (5, .inr (.inr (.inr (.inr (fun j => some (za Z (el (B + 4) j)))))))) := by rw [ent_ref k4 (by decide), l4]
  have E5 : ent Z zM0 (B + 5) = .inr (5, [.ref (za Z (B + 6)), .int 0]) := by
    rw [ent_obj k5 (by decide), (zM_z (by unfold zSp; omega))]
    rfl
  have E6 : ent Z zM0 (B + 6) = .inl (zc Z 0, (50, .inl (fun _ => 0))) := by rw [ent_byte k6, l6, (zM_z (by unfold zSp; omega))]
  have E7 : ent Z zM0 (B + 7) = .inr (2, [.int (-nI 1), .int 0, .int 0, .ref (za Z (B + 8))]) := by
    rw [ent_obj k7 (by decide), zM_m (by omega)]
    rfl
  have E8 : ent Z zM0 (B + 8) = .inl (zc Z 1, (6, .inl (fun _ => 0))) := by rw [ent_int k8, l8, (zM_z (by unfold zSp; omega))]
  have s9 : seg Z zM0 B 9 = [(za Z (B + 0), ent Z zM0 (B + 0)), (za Z (B + 1), ent Z zM0 (B + 1)), (za Z (B + 2), ent Z zM0 (B + 2)), (za Z (B + 3), ent Z zM0 (B + 3)), (za Z (B + 4), ent Z zM0 (B + 4)), (za Z (B + 5), ent Z zM0 (B + 5)), (za Z (B + 6), ent Z zM0 (B + 6)), (za Z (B + 7), ent Z zM0 (B + 7)), (za Z (B + 8), ent Z zM0 (B + 8))] := rfl
  rw [s9, E0, E1, E2, E3, E4, E5, E6, E7, E8, a0, a5, a6, a7, a8]
  rw [a1, a2, a3, a4]
  exact uR.cons _ (uR.consA (fun j hj => by unfold uA; rw [if_pos hj, el_26 k1, show B + 1 + 8 + 3 * j = B + 9 + 3 * j + 0 by omega, zb_w hB h hj (by omega)]; rfl) (uR.consA (fun j hj => by unfold uA; rw [if_pos hj, el_23 k2, show B + 2 + 67 + 2 * j = B + 69 + 2 * j + 0 by omega, zb_e hB h hj (by omega)]; rfl) (uR.consA (fun j hj => by unfold uA; rw [if_pos hj, el_27 k3, show B + 3 + 130 + 2 * j = B + 133 + 2 * j + 0 by omega, zb_g hB h hj (by omega)]; rfl) (uR.consA (fun j hj => by unfold uA; rw [if_pos hj, el_22 k4, show B + 4 + 135 + 6 * j = B + 139 + 6 * j + 0 by omega, zb_f hB h hj (by omega)]; rfl) (uR.rf _)))))
theorem uR_book (hB : B = 3 ∨ B = 172) (h : ∀ j, j < 169 → za Z (B + j) = zb b u j) : uR (mk0_1 Z b u) (seg Z zM0 B 169) := by
  have e : seg Z zM0 B 169 = seg Z zM0 B 9 ++ (((seg Z zM0 (B + 9) (3 * 20) ++ seg Z zM0 (B + 69) (2 * 32)) ++ seg Z zM0 (B + 133) (2 * 3)) ++ seg Z zM0 (B + 139) (6 * 5)) := by
    rw [show B + 139 = B + 9 + 130 by omega, show B + 133 = B + 9 + 124 by omega, show B + 69 = B + 9 + 60 by omega]
    rw [← seg_add Z zM0 (B + 9) 60 (2 * 32), ← seg_add Z zM0 (B + 9) 124 (2 * 3), ← seg_add Z zM0 (B + 9) 130 (6 * 5), ← seg_add]
  rw [e]
  exact uR.app (zs_x hB h) (uR.app (uR.app (uR.app (uR.of (zs_w hB h)) (uR.of (zs_e hB h))) (uR.of (zs_g hB h))) (uR.of (zs_f hB h)))
end UBK
