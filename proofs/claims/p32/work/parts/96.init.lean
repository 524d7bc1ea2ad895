/-- the memory once both are made -/
def zM0 : Mem := fun i k =>
  if k = 0 ∧ 12 ≤ i ∧ i < 72 ∧ (i - 12) % 3 = 0 then nI ((i - 12) / 3)
  else if k = 0 ∧ 181 ≤ i ∧ i < 241 ∧ (i - 181) % 3 = 0 then nI ((i - 181) / 3)
  else if k = 1 ∧ (i = 136 ∨ i = 138 ∨ i = 140 ∨ i = 305 ∨ i = 307 ∨ i = 309) then nI 1
  else if k = 0 ∧ (i = 137 ∨ i = 306) then nI 111
  else if k = 0 ∧ (i = 139 ∨ i = 308) then nI 97
  else if k = 0 ∧ (i = 141 ∨ i = 310) then nI 101
  else if k = 0 ∧ (i = 10 ∨ i = 179 ∨ i = 357) then -nI 1
  else if k = 0 ∧ 367 ≤ i ∧ i < 383 ∧ i % 2 = 1 then -nI 1
  else if k = 2 ∧ i = 384 then -nI 1
  else if k < 4 ∧ (i = 395 ∨ i = 398) then -nI 1
  else nI 0
theorem z_init : zIv zM0 (zM0 384) := by
  have e0 : znW (zM0 384) = 0 := by decide +kernel
  have e1 : znF (zM0 384) = 0 := by decide +kernel
  have ee : ∀ e, e < 32 → zM0 384 (zea e) = nI 0 := fun e he => (by decide +kernel : ∀ e : Fin 32, zM0 384 (zea e.1) = nI 0) ⟨e, he⟩
  have n0 : ∀ n, zNI (nI 0) n := fun n => ⟨by decide +kernel, by rw [show ix (nI 0) = 0 by decide +kernel]; exact Nat.zero_le _⟩
  have tt0 : ztt (zM0 384) = [] := by decide +kernel
  have el : ∀ e, e < 32 → zM0 (72 + 2 * e) 1 = nI 0 := fun e he => (by decide +kernel : ∀ e : Fin 32, zM0 (72 + 2 * e.1) 1 = nI 0) ⟨e, he⟩
  have w1 : ∀ w, w < 20 → zM0 (12 + 3 * w) 0 = nI w := fun w hw => (by decide +kernel : ∀ w : Fin 20, zM0 (12 + 3 * w.1) 0 = nI w.1) ⟨w, hw⟩
  have w2 : ∀ w, w < 20 → zM0 (13 + 3 * w) 1 = nI 0 := fun w hw => (by decide +kernel : ∀ w : Fin 20, zM0 (13 + 3 * w.1) 1 = nI 0) ⟨w, hw⟩
  have nil : ∀ i, zM0 i 1 = nI 0 → zL zM0 i [] := fun i h => ⟨h, fun k hk => absurd hk (Nat.not_lt_zero k), fun b hb => by cases hb⟩
  have one : ∀ i b, zM0 i 1 = nI 1 → zM0 (i + 1) 0 = nI b → b < 128 → zL zM0 i [b] := fun i b h h2 hb => by
    refine ⟨h, fun k hk => ?_, fun x hx => ?_⟩
    · have : k = 0 := by simp at hk; exact hk
      subst this
      show zM0 (i + 1) 0 = zsg b
      rw [h2, zsg_sm b hb]
    · rw [List.mem_singleton] at hx
      omega
  refine ⟨fun k _ => rfl, ⟨by rw [show zM0 384 0 = nI 0 by decide +kernel]; exact n0 _, by rw [show zM0 384 1 = nI 0 by decide +kernel]; exact n0 _, fun w hw => ?_, fun e he => ?_, fun f hf => ?_, ⟨by rw [show zM0 384 13 = nI 0 by decide +kernel]; exact n0 _, fun k hk => ?_⟩, Or.inl (by decide +kernel), by rw [show zM0 384 3 = nI 0 by decide +kernel]; exact n0 _, by rw [show zM0 384 4 = nI 0 by decide +kernel]; exact n0 _, by rw [show zM0 384 5 = nI 0 by decide +kernel]; exact n0 _, by rw [show zM0 384 6 = nI 0 by decide +kernel]; exact n0 _⟩, ⟨⟨by decide +kernel, by decide +kernel⟩, fun w hw => ?_, fun w hw => ?_, fun e he => ?_, fun f hf => ?_, ?_, by decide +kernel, by decide +kernel, by decide +kernel, fun f hf => ?_⟩, ⟨w1, one 136 111 (by decide +kernel) (by decide +kernel) (by decide), one 138 97 (by decide +kernel) (by decide +kernel) (by decide), one 140 101 (by decide +kernel) (by decide +kernel) (by decide)⟩, ⟨by decide +kernel, Or.inl (by decide +kernel)⟩, zTP_e (by decide +kernel) (by decide +kernel), fun t ht => ?_, fun t ht => ?_⟩
  · rw [e0] at hw; omega
  · unfold zEd
    rw [ee e he]
    refine ⟨n0 _, fun k hk => ?_⟩
    rw [show ix (nI 0) = 0 from zi_ix (by omega)] at hk
    omega
  · rw [e1] at hf; omega
  · rw [show ix (zM0 384 13) = 0 by decide +kernel] at hk; omega
  · rw [show 3 + 10 + 3 * w = 13 + 3 * w by omega, w2 w hw]; exact n0 _
  · rw [e0] at hw; omega
  · have : zen (zM0 384) e = [] := by
      unfold zen
      rw [ee e he]
      rfl
    rw [this, show 3 + 69 + 2 * e = 72 + 2 * e by omega]
    exact nil _ (el e he)
  · rw [e1] at hf; omega
  · rw [tt0]; exact nil _ (by decide +kernel)
  · rw [e1] at hf; omega
  · have k1 : ∀ t : Fin 4, zM0 (375 + 2 * t.1) 0 = zM0 395 t.1 ∧ zM0 395 t.1 = -nI 1 := by decide +kernel
    exact ⟨(k1 ⟨t, ht⟩).1, Or.inl (k1 ⟨t, ht⟩).2⟩
  · have k1 : ∀ t : Fin 4, zM0 (367 + 2 * t.1) 0 = zM0 398 t.1 ∧ zM0 398 t.1 = -nI 1 ∧ zM0 (367 + 2 * t.1) 1 = zM0 399 t.1 ∧ zM0 399 t.1 = nI 0 := by decide +kernel
    obtain ⟨a, b, c, d⟩ := k1 ⟨t, ht⟩
    dsimp only at a b c d
    refine ⟨a, Or.inl b, c, by rw [d]; exact n0 _, fun k hk => ?_⟩
    rw [d, zi_ix (by omega)] at hk
    omega
