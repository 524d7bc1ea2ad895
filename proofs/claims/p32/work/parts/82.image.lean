theorem zL_cp {σ τ : Mem} {i j : Nat} {l : List Nat} (h : zL σ j l) (h1 : τ i 1 = σ j 1) (h2 : ∀ k, k < l.length → τ (i + 1) k = σ (j + 1) k) : zL τ i l :=
  ⟨by rw [h1]; exact h.1, fun k hk => by rw [h2 k hk]; exact h.2.1 k hk, h.2.2⟩
/-- a book is copied -/
theorem z_bookCp {σ : Mem} {g : Nat → Int32} {b c : Nat} (h : zbc b c) (hg : zBG g) (hc : zCB σ c g) : ∃ τ, fX0_become σ b c = some τ ∧ zCB τ b g ∧ τ b 1 = g 0
    ∧ ∀ x k, ¬ (x = b ∧ (k = 1 ∨ k = 5)) → ¬ (b + 5 ≤ x ∧ x < b + 9) → ¬ (b + 139 ≤ x ∧ x < b + 169) → ¬ (b + 69 ≤ x ∧ x < b + 133) → ¬ (b + 9 ≤ x ∧ x < b + 69 ∧ ¬ ((x - b) % 3 = 0 ∧ k = 0)) → τ x k = σ x k := by
  obtain ⟨⟨c1, c2⟩, c3, c4, c5, c6, c7, c8⟩ := hc
  have n20 : znW g ≤ 20 := hg.1.2
  have n5 : znF g ≤ 5 := hg.2.1.2
  have tt := ztt_ok hg
  have hen : ∀ e, e < 32 → (zen g e).length ≤ 3 := fun e he => by unfold zen; rw [ztx_len]; exact (hg.2.2.2.1 e he).1.2
  obtain ⟨τ, t1, t2, t3, t4, t5, ⟨t6, ⟨t7, t8⟩, t9, ta⟩, fr⟩ := z_bkW (σ := σ) h (m := (ztt g).length) c7.1 tt.2.1 (fun e he => ⟨_, hen e he, (c5 e he).1⟩) (fun w hw => ⟨ix (σ (c + 10 + 3 * w) 1), (c3 w hw).2, (c3 w hw).1⟩)
  refine ⟨τ, t1, ⟨⟨by rw [t2]; exact c1, by rw [t6]; exact c2⟩, fun w hw => ?_, fun w hw => ?_, fun e he => ?_, fun f hf => ?_, ?_, ?_⟩, by rw [t2]; exact c1, fr⟩
  · rw [(t3 w hw).2.2.2.1]; exact c3 w hw
  · obtain ⟨d1, d2, d3, d4, d5⟩ := t3 w (by omega)
    obtain ⟨e1, e2, e3, e4⟩ := c4 w hw
    refine ⟨by rw [d1]; exact e1, by rw [d2]; exact e2, by rw [d3]; exact e3, zL_cp e4 (by rw [show b + 9 + 3 * w + 1 = b + 10 + 3 * w by omega, show c + 9 + 3 * w + 1 = c + 10 + 3 * w by omega]; exact d4) (fun k hk => ?_)⟩
    have q := e4.1
    rw [show c + 9 + 3 * w + 1 = c + 10 + 3 * w by omega] at q
    have l6 := (c3 w (by omega)).2
    have hq : ix (σ (c + 10 + 3 * w) 1) = (zst g w).length := by
      have : (zst g w).length ≤ 6 := by unfold zst; rw [ztx_len]; exact (hg.2.2.1 w hw).2.2.2.1.2
      rw [q, zi_ix (by omega)]
    rw [show b + 9 + 3 * w + 1 + 1 = b + 11 + 3 * w by omega, show c + 9 + 3 * w + 1 + 1 = c + 11 + 3 * w by omega]
    exact d5 k (by rw [hq]; exact hk)
  · obtain ⟨d1, d2⟩ := t4 e he
    have := hen e he
    refine zL_cp (c5 e he) d1 (fun k hk => ?_)
    rw [show b + 69 + 2 * e + 1 = b + 70 + 2 * e by omega, show c + 69 + 2 * e + 1 = c + 70 + 2 * e by omega]
    exact d2 k (by rw [(c5 e he).1, zi_ix (by omega)]; exact hk)
  · obtain ⟨d1, d2, d3⟩ := t5 f (by omega)
    obtain ⟨e1, e2, e3⟩ := c6 f hf
    have h6 : znH g f ≤ 6 := (hg.2.2.2.2.1 f hf).1.2
    refine ⟨by rw [d1]; exact e1, fun k hk => ?_, fun gr hgr => ?_⟩
    · rw [d2 1 k (by omega) (by omega) (by omega), d2 2 k (by omega) (by omega) (by omega), d2 3 k (by omega) (by omega) (by omega), d2 4 k (by omega) (by omega) (by omega)]
      exact e2 k hk
    · rw [d3 gr hgr]
      exact e3 gr hgr
  · exact zL_cp c7 t7 (fun k hk => t8 k (by rw [c7.1, zi_ix (by omega)]; exact hk))
  · obtain ⟨e1, e2, e3, e4⟩ := c8
    refine ⟨by rw [t9 0 (by omega)]; exact e1, by rw [t9 1 (by omega)]; exact e2, by rw [t9 2 (by omega)]; exact e3, fun f hf e k hk => ?_⟩
    have h6 : znH g f ≤ 6 := (hg.2.2.2.2.1 f hf).1.2
    rw [show b + 7 + 1 = b + 8 by omega, ta k (by omega)]
    exact e4 f hf e k hk
theorem z_op_image {σ : Mem} {g : Nat → Int32} (h : zIv σ g) : zOp σ (fun σ => fX11_image σ 0) (fun τ => fX12_image τ 383) := by
  have hg := h.2.1
  obtain ⟨τ, t1, t2, t3, t4⟩ := z_bookCp (b := 172) (c := 3) (Or.inr ⟨rfl, rfl⟩) hg h.2.2.1
  have r1 : (mw τ 0 3 (nI 1)) 172 1 = g 0 := by simp (disch := omega) only [zM]; exact t3
  have fr : ∀ x k, ¬ (172 ≤ x ∧ x < 341) → τ x k = σ x k := fun x k p => t4 x k (by omega) (by omega) (by omega) (by omega) (by omega)
  refine zO_op ?_
  show zW (fX11_image σ 0) _
  unfold fX11_image
  simp only [Nat.zero_add]
  refine zW_ob t1 (zW_bv (mw τ 0 3 (nI 1)) rfl (zW_so ?_))
  rw [r1]
  dsimp only
  unfold fX12_image
  refine zW_lp (fun j s => j ≤ 517 ∧ ∃ υ, s = (nI j, υ) ∧ (∀ k, k < j → υ 385 k = g k) ∧ ∀ x c, x ≠ 385 → υ x c = (mw τ 0 3 (nI 1)) x c) 517 ?_ (by unfold FU; omega) ⟨Nat.zero_le _, _, rfl, fun k hk => absurd hk (by omega), fun x c p => rfl⟩
  rintro j s hj ⟨-, υ, rfl, u1, u2⟩
  unfold sX12_image_2
  dsimp only
  have m1 : ∀ k, k < 517 → υ 384 k = g k := fun k hk => by
    rw [u2 _ _ (by omega)]
    simp (disch := omega) only [zM]
    rw [fr _ _ (by omega)]
    exact h.1 k hk
  refine zW_if (fun q => ?_) (fun q => ?_)
  · simp (disch := omega) only [zLT, zC] at q
    have : j = 517 := by omega
    subst this
    refine zW_oR (zW_bv (mw υ 383 2 (nI 1)) rfl (zW_gd (by decide +kernel) (zW_so ⟨?_, g, ?_⟩)))
    · show (mw υ 383 2 (nI 1)) 384 (ix (0 : Int32)) = g 0
      simp (disch := omega) only [zM]
      exact m1 0 (by omega)
    · dsimp only
      obtain ⟨h1, h2, h3, h4, h5, h6, h7, h8⟩ := h
      have w : ∀ x k, ¬ (172 ≤ x ∧ x < 341) → x ≠ 385 → ¬ (x = 0 ∧ k = 3) → ¬ (x = 383 ∧ k = 2) → (mw υ 383 2 (nI 1)) x k = σ x k := fun x k p1 p2 p3 p4 => by
        simp (disch := omega) only [zM]
        rw [u2 _ _ p2]
        simp (disch := omega) only [zM]
        exact fr x k p1
      have w1 : (mw υ 383 2 (nI 1)) 0 3 = nI 1 := by
        simp (disch := omega) only [zM]
        rw [u2 _ _ (by omega)]
        simp only [zM]
      have w2 : (mw υ 383 2 (nI 1)) 383 2 = nI 1 := by simp only [zM]
      have w3 : ∀ k, k < 517 → (mw υ 383 2 (nI 1)) 385 k = g k := fun k hk => by
        simp (disch := omega) only [zM]
        exact u1 k hk
      have w4 : zCB (mw υ 383 2 (nI 1)) 172 g := zCB_co h2 t2 (fun a k p q => by
        simp (disch := omega) only [zM]
        rw [u2 _ _ (by omega)]
        simp (disch := omega) only [zM])
      generalize mw υ 383 2 (nI 1) = ω at *
      refine ⟨fun k hk => by rw [w _ _ (by omega) (by omega) (by omega) (by omega)]; exact h1 k hk, h2, zCB_co h2 h3 (fun a k p q => w a k (by omega) (by omega) (by omega) (by omega)), zNG_co h4 (fun a k p q _ => w a k (by omega) (by omega) (by omega) (by omega)) (fun a k p q => w a k (by omega) (by omega) (by omega) (by omega)), ⟨by rw [w1, w2], Or.inr ⟨w1, g, w3, h2, w4⟩⟩, ?_, ?_, ?_⟩
      · exact zTP_co h6 (fun k => w _ _ (by omega) (by omega) (by omega) (by omega)) (fun k => w _ _ (by omega) (by omega) (by omega) (by omega)) (w _ _ (by omega) (by omega) (by omega) (by omega)) (fun k => w _ _ (by omega) (by omega) (by omega) (by omega))
      · exact zTR_co h7 (fun a k p q => w a k (by omega) (by omega) (by omega) (by omega)) (fun a k p q => w a k (by omega) (by omega) (by omega) (by omega))
      · exact zSH_co h8 (fun a k p q => w a k (by omega) (by omega) (by omega) (by omega)) (fun a k p q => w a k (by omega) (by omega) (by omega) (by omega))
  · simp (disch := omega) only [zLT, zC] at q
    refine zW_gd (by simp (disch := omega) only [Nat.reduceAdd, zl_c, zI]) (zW_gd (by simp (disch := omega) only [Nat.reduceAdd, zl_c, zI]) ?_)
    refine zW_bv (mw υ 385 j (g j)) (by rw [zi_ix (by omega), show υ (383 + 1) j = g j from m1 j (by omega)]) (zW_bv _ rfl (zW_oL ⟨by omega, by omega, mw υ 385 j (g j), by simp only [zLT, zI], fun k hk => ?_, fun x c p => by simp (disch := omega) only [zM]; exact u2 x c p⟩))
    by_cases hkj : k = j
    · subst hkj; simp only [zM]
    · simp (disch := omega) only [zM]; exact u1 k (by omega)
theorem z_op_back {σ : Mem} {g : Nat → Int32} (h : zIv σ g) : zOp σ (fun σ => fX11_back σ 0) (fun τ => fX12_back τ 383) := by
  have k1 := h.2.2.2.2.1.1
  rcases h.2.2.2.2.1.2 with k2 | ⟨k2, r, k3, k4, k5⟩
  · refine zO_e (r := -nI 3) (τ := σ) (υ := σ) ?_ ?_ h
    · unfold fX11_back
      rw [if_pos (show σ 0 3 = 0 from k2)]; rfl
    · unfold fX12_back
      rw [if_pos (show σ 383 2 = 0 from k1.symm.trans k2)]; rfl
  obtain ⟨τ, t1, t2, t3, t4⟩ := z_bookCp (b := 3) (c := 172) (Or.inl ⟨rfl, rfl⟩) k4 k5
  have fr : ∀ x k, ¬ (3 ≤ x ∧ x < 172) → τ x k = σ x k := fun x k p => t4 x k (by omega) (by omega) (by omega) (by omega) (by omega)
  refine zO_op ?_
  show zW (fX11_back σ 0) _
  unfold fX11_back
  simp only [Nat.zero_add]
  refine zW_f (by rw [k2]; exact zn01) (zW_ob t1 (zW_so ?_))
  rw [t3]
  dsimp only
  unfold fX12_back
  refine zW_f (by rw [fr _ _ (by omega), ← k1, k2]; exact zn01) ?_
  refine zW_lp (fun j s => j ≤ 517 ∧ ∃ υ, s = (nI j, υ) ∧ (∀ k, k < j → υ 384 k = r k) ∧ ∀ x c, x ≠ 384 → υ x c = τ x c) 517 ?_ (by unfold FU; omega) ⟨Nat.zero_le _, _, rfl, fun k hk => absurd hk (by omega), fun x c p => rfl⟩
  rintro j s hj ⟨-, υ, rfl, u1, u2⟩
  unfold sX12_back_12
  dsimp only
  refine zW_if (fun q => ?_) (fun q => ?_)
  · simp (disch := omega) only [zLT, zC] at q
    have : j = 517 := by omega
    subst this
    refine zW_oR (zW_gd (by decide +kernel) (zW_so ⟨u1 0 (by omega), r, ?_⟩))
    dsimp only
    have w : ∀ x k, ¬ (3 ≤ x ∧ x < 172) → x ≠ 384 → υ x k = σ x k := fun x k p q => by rw [u2 x k q]; exact fr x k p
    refine zIv_bk h (fun x c p => w x c (by omega) (by omega)) u1 k4 (zCB_co k4 t2 (fun a k p q => u2 a k (by omega))) ?_ (zTP_co h.2.2.2.2.2.1 (fun k => w _ _ (by omega) (by omega)) (fun k => w _ _ (by omega) (by omega)) (w _ _ (by omega) (by omega)) (fun k => w _ _ (by omega) (by omega)))
    refine ⟨fun w hw => ?_, ?_, ?_, ?_⟩
    · rw [u2 _ _ (by omega), t4 _ _ (by omega) (by omega) (by omega) (by omega) (by omega)]
      exact h.2.2.2.1.1 w hw
    · exact zL_cb h.2.2.2.1.2.1 (fun a k p q => by rw [u2 _ _ (by omega), t4 _ _ (by omega) (by omega) (by omega) (by omega) (by omega)])
    · exact zL_cb h.2.2.2.1.2.2.1 (fun a k p q => by rw [u2 _ _ (by omega), t4 _ _ (by omega) (by omega) (by omega) (by omega) (by omega)])
    · exact zL_cb h.2.2.2.1.2.2.2 (fun a k p q => by rw [u2 _ _ (by omega), t4 _ _ (by omega) (by omega) (by omega) (by omega) (by omega)])
  · simp (disch := omega) only [zLT, zC] at q
    refine zW_gd (by simp (disch := omega) only [Nat.reduceAdd, zl_c, zI]) (zW_gd (by simp (disch := omega) only [Nat.reduceAdd, zl_c, zI]) ?_)
    refine zW_bv (mw υ 384 j (r j)) ?_ (zW_bv _ rfl (zW_oL ⟨by omega, by omega, mw υ 384 j (r j), by simp only [zLT, zI], fun k hk => ?_, fun x c p => by simp (disch := omega) only [zM]; exact u2 x c p⟩))
    · rw [zi_ix (by omega), u2 (383 + 2) j (by omega), fr _ _ (by omega), show σ (383 + 2) j = r j from k3 j (by omega)]
    by_cases hkj : k = j
    · subst hkj; simp only [zM]
    · simp (disch := omega) only [zM]; exact u1 k (by omega)
