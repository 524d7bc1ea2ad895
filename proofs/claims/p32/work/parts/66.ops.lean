theorem z_op_told {σ : Mem} {g : Nat → Int32} (h : zIv σ g) (p1 p2 : Int32) : ∃ r, fX11_told σ 0 p1 p2 = some r ∧ fX12_told σ 383 p1 p2 = some r := by
  have hg := h.2.1
  have hc := h.2.2.1
  have hM := h.1
  have hW : znW g ≤ 20 := hg.1.2
  rcases zrg p1 (n := znW g) (by omega) with ⟨w, hw, rfl⟩ | h1
  · obtain ⟨b1, b2, b3, b4⟩ := hc.2.2.1 w hw
    rw [show 3 + 9 + 3 * w = 12 + 3 * w by omega] at b1 b2 b3 b4
    have w6 := (hg.2.2.1 w hw).2.2.2.1.1
    have xa : fX11_told σ 0 (nI w) p2 = (if p2 = nI 0 then some (σ (12 + 3 * w) 2) else if p2 = nI 1 then some (σ (12 + 3 * w) 3) else if p2 = nI 2 then some (σ (12 + 3 * w) 4) else if p2 = nI 3 then some (σ (12 + 3 * w + 1) 1) else some (-nI 2)) := by
      unfold fX11_told
      rw [Nat.zero_add, z_wordAt hg hc hw]
      rfl
    have ma : fX12_told σ 383 (nI w) p2 = obd (fX12_isIn σ p2 (nI 0) (nI 3)) (fun q4 => if q4 = 0 then (some (-2 : Int32)) else (grd (inb (((14 : Int32) + ((10 : Int32) * nI w)) + p2) (ln (383 + 1))) (some (σ (383 + 1) (ix (((14 : Int32) + ((10 : Int32) * nI w)) + p2)))))) := by
      unfold fX12_told
      rw [z_isWord hg hM hw]
      rfl
    rcases zrg p2 (n := 4) (by omega) with ⟨k, hk, rfl⟩ | h2
    · have mb : fX12_told σ 383 (nI w) (nI k) = some (g (zwa w + k)) := by
        rw [ma, z_isIn (by omega) (by omega) (by omega)]
        simp (disch := omega) only [zE, zn01, zLT, if_false, zI, Nat.reduceAdd, zl_c]
        rw [hM _ (by omega)]
      refine ⟨g (zwa w + k), ?_, mb⟩
      rw [xa]
      rcases (by omega : k = 0 ∨ k = 1 ∨ k = 2 ∨ k = 3) with q | q | q | q <;> subst q
      · rw [if_pos rfl, b1]; rfl
      · rw [if_neg (by decide +kernel), if_pos rfl, b2]
      · rw [if_neg (by decide +kernel), if_neg (by decide +kernel), if_pos rfl, b3]
      · rw [if_neg (by decide +kernel), if_neg (by decide +kernel), if_neg (by decide +kernel), if_pos rfl, b4.1, zst_len, ← w6]
    · have ne : ∀ k, k < 4 → ¬ p2 = nI k := by
        intro k hk q
        rw [q] at h2
        rcases h2 with h2 | h2
        · exact nI_pos (by omega) h2
        · simp (disch := omega) only [zC] at h2; omega
      refine ⟨-nI 2, ?_, ?_⟩
      · rw [xa, if_neg (ne 0 (by omega)), if_neg (ne 1 (by omega)), if_neg (ne 2 (by omega)), if_neg (ne 3 (by omega))]
      · rw [ma, show (nI 3 : Int32) = nI (4 - 1) from rfl, z_isInX (by omega) (by omega) h2]; rfl
  · refine ⟨-nI 2, ?_, ?_⟩
    · unfold fX11_told
      rw [Nat.zero_add, z_wordAtN hg hc h1]; rfl
    · unfold fX12_told
      rw [z_isWordN hg hM h1]; rfl
theorem zl_348 : ln (348 + 1) = 10 := zl_c.2.2.2.2.2.2.2.1
theorem zFr_sp {σ τ : Mem} {o : Nat} (ho : 341 ≤ o) (ho2 : o + 1 ≤ 364) (h : ∀ x c, x ≠ o → x ≠ o + 1 → τ x c = σ x c) : zFr σ τ := fun x c p => h x c (fun q => p (by unfold zsc; omega)) (fun q => p (by unfold zsc; omega))
theorem zFr_q {σ τ : Mem} (h : zFq σ τ) : zFr σ τ := fun x c p => h x c (fun q => p (by unfold zsc; omega)) (fun q => p (by unfold zsc; omega))
theorem zMG_fr {σ τ : Mem} {g : Nat → Int32} (h : zMG σ g) (e : zFr σ τ) : zMG τ g := fun k hk => by rw [e _ _ (zsc_no (by omega) (by omega) (by omega) (by omega))]; exact h k hk
theorem z_op_taken {σ : Mem} {g : Nat → Int32} (h : zIv σ g) (p1 p2 : Int32) : zOp σ (fun σ => fX11_taken σ 0 p1 p2) (fun τ => fX12_taken τ 383 p1 p2) := by
  have hg := h.2.1
  have hc := h.2.2.1
  have hM := h.1
  have hN := h.2.2.2.1
  have hW : znW g ≤ 20 := hg.1.2
  rcases zrg p1 (n := znW g) (by omega) with ⟨w, hw, rfl⟩ | h1
  rotate_left
  · refine zO_e (r := -nI 2) (τ := σ) (υ := σ) ?_ ?_ h
    · unfold fX11_taken
      rw [Nat.zero_add, z_wordAtN hg hc h1]; rfl
    · unfold fX12_taken
      rw [z_isWordN hg hM h1]; rfl
  rcases zrg p2 (n := 6) (by omega) with ⟨k, hk, rfl⟩ | h2
  rotate_left
  · refine zO_e (r := -nI 2) (τ := σ) (υ := σ) ?_ ?_ h
    · unfold fX11_taken
      rw [Nat.zero_add, z_wordAt hg hc hw]
      simp only [zE, zLT]
      rw [z_belowN h2]; rfl
    · unfold fX12_taken
      rw [z_isWord hg hM hw]
      simp only [zE, zn01, zLT, if_false]
      rw [show (nI 5 : Int32) = nI (6 - 1) from rfl, z_isInX (by omega) (by omega) h2]; rfl
  have w0 := (hg.2.2.1 w hw).1
  have w1 := w0.2
  have w4 := (hg.2.2.1 w hw).2.2.1
  have w5 := w4.2
  obtain ⟨b1, b2, b3, b4⟩ := hc.2.2.1 w hw
  rw [show 3 + 9 + 3 * w = 12 + 3 * w by omega] at b1 b2 b3 b4
  rw [w0.1] at b1
  rw [w4.1] at b3
  refine zO_op ?_
  show zW (fX11_taken σ 0 (nI w) (nI k)) _
  unfold fX11_taken
  rw [Nat.zero_add]
  refine zW_ob (z_wordAt hg hc hw) ?_
  rw [zE_ocss]
  refine zW_ob (z_below (b := 6) hk (by omega)) (zW_f zn01 ?_)
  refine zW_ob (z_isOf b1 w1 (by omega)) ?_
  have mpre : ∀ (τ : Mem) (Q : Int32 × Mem → Prop), zMG τ g → (zund (ix (g (zwa w))) k = false → Q (-nI 13, τ)) → (zund (ix (g (zwa w))) k = true → ∀ υ, zR υ (zform g w 1 1 (ix (g (zwa w + 2))) 1) → zFq τ υ → Q (nI (zform g w 1 1 (ix (g (zwa w + 2))) 1).length, υ)) → zW (fX12_taken τ 383 (nI w) (nI k)) Q := by
    intro τ Q hMt q1 q2
    unfold fX12_taken
    refine zW_ob (z_isWord hg hMt hw) (zW_f zn01 ?_)
    refine zW_ob (by rw [show (5 : Int32) = nI 5 from rfl, zLT.1]; exact z_isIn (by omega) (by omega) (by omega)) (zW_f zn01 ?_)
    refine zW_ob (z_kind hMt (by omega)) ?_
    rw [w0.1]
    refine zW_ob (z_isUnder w1 (by omega)) ?_
    cases hz : zund (ix (g (zwa w))) k with
    | false => exact zW_t rfl (zW_so (q1 hz))
    | true =>
      refine zW_f zn01 ?_
      refine zW_ob (z_gender hMt (by omega)) ?_
      rw [w4.1, zLT.2.1]
      obtain ⟨υ, u1, u2, u3⟩ := z_forms (c := 1) (n := 1) (d := ix (g (zwa w + 2))) (m := 1) hMt hg hw (by omega) (by omega) (by omega) (by omega)
      refine zW_ob u1 (zW_so ?_)
      rw [u2.1]
      exact q2 hz υ u2 u3
  cases hz : zund (ix (g (zwa w))) k with
  | false =>
    refine zW_t rfl (zW_so (mpre _ _ hM (fun _ => ⟨rfl, g, h⟩) (fun q => ?_)))
    rw [hz] at q; cases q
  | true =>
    refine zW_f zn01 ?_
    obtain ⟨τ, t1, t2, t3⟩ := z_spell (o := 348) (v := 5 + ix (g (zwa w + 2)) * 8 + 24) hg hc hN hw (by omega) (by omega) zl_348
    refine zW_ob (x := τ) (by rw [b3]; simp only [zLT, zI]; exact t1) ?_
    rw [show (5 + ix (g (zwa w + 2)) * 8 + 24) % 4 = 1 by omega, show (5 + ix (g (zwa w + 2)) * 8 + 24) / 4 % 2 = 1 by omega, show (5 + ix (g (zwa w + 2)) * 8 + 24) / 8 % 3 = ix (g (zwa w + 2)) by omega, show (5 + ix (g (zwa w + 2)) * 8 + 24) / 24 = 1 by omega] at t2
    have fr : zFr σ τ := zFr_sp (o := 348) (by omega) (by omega) t3
    refine zW_so (mpre _ _ (zMG_fr hM fr) (fun q => ?_) (fun _ υ u2 u3 => ⟨t2.1.symm, g, zIv_fr h (zFr_trans fr (zFr_q u3))⟩))
    rw [hz] at q; cases q
/-- size, letter k, or outside -/
def zsl (l : List Nat) (k : Int32) : Int32 := if k = -nI 1 then nI l.length else if k < 0 ∨ nI l.length ≤ k then -nI 12 else nI (l.getD (ix k) 0)
theorem z_sizeOrLetter {σ : Mem} {i R : Nat} {l : List Nat} {k : Int32} (h : zL σ i l) (hr : ln (i + 1) = R) (hl : l.length ≤ R) (hR : R < 1000) : fX11_sizeOrLetter σ i k = some (zsl l k) := by
  unfold fX11_sizeOrLetter zsl
  by_cases h0 : k = -nI 1
  · have h0' : k = (-1 : Int32) := h0
    rw [if_pos h0', if_pos h0, h.1]
  · have h0' : ¬ k = (-1 : Int32) := h0
    rw [if_neg h0', if_neg h0]
    rcases zrg k (n := l.length) (by omega) with ⟨j, hj, rfl⟩ | h1
    · have hn : ¬ ((nI j : Int32) < 0 ∨ nI l.length ≤ nI j) := by
        rintro (q | q)
        · exact nI_pos (by omega) q
        · simp (disch := omega) only [zC] at q; omega
      have g1 := zL_get h hj
      rw [z_at h hr hl hR (by omega), if_pos hj, if_neg hn, zi_ix (by omega)]
      simp only [zE]
      rw [if_neg (by simp (disch := omega) only [zLT, zC]; exact fun h => h)]
    · rw [if_pos h1]
      have e : fX5_at σ i k = some (-nI 1) := by
        rcases h1 with q | q
        · exact z_at_neg q
        · unfold fX5_at
          by_cases q0 : k < 0
          · rw [if_pos q0]; rfl
          · rw [if_neg q0, h.1, if_pos q]; rfl
      rw [e]
      rfl
theorem z_sizeOrM {σ : Mem} {l : List Nat} {k : Int32} {i f : Nat} {Q : Int32 × Mem → Prop} (h1 : σ 383 f = nI l.length) (h2 : ∀ j, j < l.length → σ i j = nI (l.getD j 0)) (hi : ln i = 80) (hl : l.length ≤ 80) (hq : Q (zsl l k, σ)) :
    zW (if k = (-1 : Int32) then (some ((σ 383 f), σ)) else (obd (fX12_isIn σ k (0 : Int32) ((σ 383 f) - (1 : Int32))) (fun q10 => if q10 = 0 then (some ((-12 : Int32), σ)) else (grd (inb k (ln i)) (some ((σ i (ix k)), σ)))))) Q := by
  unfold zsl at hq
  refine zW_if (fun q => ?_) (fun q => ?_)
  · have q' : k = -nI 1 := q
    rw [if_pos q'] at hq
    rw [h1]
    exact zW_so hq
  · have q' : ¬ k = -nI 1 := q
    rw [if_neg q'] at hq
    rw [h1]
    rcases zrg k (n := l.length) (by omega) with ⟨j, hj, rfl⟩ | h3
    · have hn : ¬ ((nI j : Int32) < 0 ∨ nI l.length ≤ nI j) := by
        rintro (q | q)
        · exact nI_pos (by omega) q
        · simp (disch := omega) only [zC] at q; omega
      rw [if_neg hn, zi_ix (by omega)] at hq
      refine zW_ob (z_isInP hj (by omega)) (zW_f zn01 ?_)
      refine zW_gd (zi_inb (by omega) (by omega)) (zW_so ?_)
      rw [zi_ix (by omega), h2 j hj]
      exact hq
    · rw [if_pos h3] at hq
      refine zW_ob (z_isInN (z_pred (by omega) h3)) (zW_t rfl (zW_so hq))
theorem z_op_form {σ : Mem} {g : Nat → Int32} (h : zIv σ g) (p1 p2 p3 : Int32) : zOp σ (fun σ => fX11_form σ 0 p1 p2 p3) (fun τ => fX12_form τ 383 p1 p2 p3) := by
  have hg := h.2.1
  have hc := h.2.2.1
  have hM := h.1
  have hN := h.2.2.2.1
  have hW : znW g ≤ 20 := hg.1.2
  rcases zrg p1 (n := znW g) (by omega) with ⟨w, hw, rfl⟩ | h1
  rotate_left
  · refine zO_e (r := -nI 2) (τ := σ) (υ := σ) ?_ ?_ h
    · unfold fX11_form
      rw [Nat.zero_add, z_wordAtN hg hc h1]; rfl
    · unfold fX12_form
      rw [z_isWordN hg hM h1]; rfl
  rcases zrg p2 (n := 96) (by omega) with ⟨v, hv, rfl⟩ | h2
  rotate_left
  · refine zO_e (r := -nI 2) (τ := σ) (υ := σ) ?_ ?_ h
    · unfold fX11_form
      rw [Nat.zero_add, z_wordAt hg hc hw]
      simp only [zE, zLT]
      rw [z_belowN h2]; rfl
    · unfold fX12_form
      rw [z_isWord hg hM hw]
      simp only [zE, zn01, zLT, if_false]
      rw [show (nI 95 : Int32) = nI (96 - 1) from rfl, z_isInX (by omega) (by omega) h2]; rfl
  obtain ⟨τ, t1, t2, t3⟩ := z_spell (o := 348) (v := v) hg hc hN hw hv (by omega) zl_348
  have fr : zFr σ τ := zFr_sp (o := 348) (by omega) (by omega) t3
  have hok := zform_ok (c := v % 4) (n := v / 4 % 2) (d := v / 8 % 3) (m := v / 24) hg hw (by omega) (by omega) (by omega)
  refine zO_op ?_
  show zW (fX11_form σ 0 (nI w) (nI v) p3) _
  unfold fX11_form
  rw [Nat.zero_add]
  refine zW_ob (z_wordAt hg hc hw) ?_
  rw [zE_ocss]
  refine zW_ob (z_below (b := 96) hv (by omega)) (zW_f zn01 ?_)
  refine zW_ob (x := τ) (by rw [Nat.zero_add]; exact t1) ?_
  refine zW_ob (z_sizeOrLetter (i := 348) t2 zl_348 hok.2.2 (by omega)) (zW_so ?_)
  dsimp only
  unfold fX12_form
  have hMt := zMG_fr hM fr
  refine zW_ob (z_isWord hg hMt hw) (zW_f zn01 ?_)
  refine zW_ob (by rw [show (95 : Int32) = nI 95 from rfl, zLT.1]; exact z_isIn (by omega) (by omega) (by omega)) (zW_f zn01 ?_)
  obtain ⟨υ, u1, u2, u3⟩ := z_forms (c := v % 4) (n := v / 4 % 2) (d := v / 8 % 3) (m := v / 24) hMt hg hw (by omega) (by omega) (by omega) (by omega)
  refine zW_ob (x := υ) (by simp (disch := omega) only [zLT, zI]; exact u1) ?_
  exact z_sizeOrM (i := 387) (f := 6) u2.1 u2.2 zl_c.2.2.2.2.2.2.2.2.2.2.2.2.2.2.2.2.2.2.2.2.2.1 (by omega) ⟨rfl, g, zIv_fr h (zFr_trans fr (zFr_q u3))⟩
theorem z_op_hole {σ : Mem} {g : Nat → Int32} (h : zIv σ g) (p1 p2 p3 : Int32) : ∃ r, fX11_hole σ 0 p1 p2 p3 = some r ∧ fX12_hole σ 383 p1 p2 p3 = some r := by
  have hg := h.2.1
  have hc := h.2.2.1
  have hM := h.1
  have hN := h.2.2.2.1
  have hF : znF g ≤ 5 := hg.2.1.2
  rcases zrg p1 (n := znF g) (by omega) with ⟨f, hf, rfl⟩ | h1
  rotate_left
  · refine ⟨-nI 2, ?_, ?_⟩
    · unfold fX11_hole
      rw [Nat.zero_add, z_frameAtN hg hc h1]; rfl
    · unfold fX12_hole
      rw [z_isFrameN hg hM h1]; rfl
  obtain ⟨f5, hFm, hB, q3, q4, q5⟩ := zF_n hg hc hf
  have en : g (zfa f) = nI (znH g f) := hFm.1.1
  have key : zW (fX11_hole σ 0 (nI f) p2 p3) (fun r => zW (fX12_hole σ 383 (nI f) p2 p3) (fun s => s = r)) := by
    unfold fX11_hole
    rw [Nat.zero_add]
    refine zW_ob (z_frameAt hg hc hf) ?_
    rw [zE_ocss]
    have m0 : ∀ Q, zW (obd (fX12_isIn σ p3 (0 : Int32) (4 : Int32)) (fun q4 => if q4 = 0 then (some (-2 : Int32)) else (obd (fX12_holes σ 383 (nI f)) (fun q7 => obd (fX12_isIn σ p2 (0 : Int32) (q7 - (1 : Int32))) (fun q9 => if q9 = 0 then (some (-12 : Int32)) else (if p3 = (4 : Int32) then (obd (fX12_able σ 383 (nI f) p2) (fun q13 => some q13)) else (obd (fX12_ofHole σ 383 (nI f) p2 (0 : Int32)) (fun q15 => if p3 ≤ 0 then (if q15 = (110 : Int32) then (some (0 : Int32)) else (if q15 = (118 : Int32) then (some (1 : Int32)) else (if q15 = (102 : Int32) then (some (2 : Int32)) else (some (3 : Int32))))) else (obd (fX12_ofHole σ 383 (nI f) p2 p3) (fun q21 => some q21)))))))))) Q → zW (fX12_hole σ 383 (nI f) p2 p3) Q := by
      intro Q hQ
      unfold fX12_hole
      exact zW_ob (z_isFrame hg hM hf) (zW_f zn01 hQ)
    rcases zrg p3 (n := 5) (by omega) with ⟨k, hk, rfl⟩ | h3
    · refine zW_f (nI_pos (by omega)) (zW_t (by simp (disch := omega) only [zLT, zC]; omega) ?_)
      have m1 : ∀ Q, zW (obd (fX12_isIn σ p2 (nI 0) (nI (znH g f) - nI 1)) (fun q9 => if q9 = 0 then (some (-12 : Int32)) else (if (nI k : Int32) = (4 : Int32) then (obd (fX12_able σ 383 (nI f) p2) (fun q13 => some q13)) else (obd (fX12_ofHole σ 383 (nI f) p2 (0 : Int32)) (fun q15 => if (nI k : Int32) ≤ 0 then (if q15 = (110 : Int32) then (some (0 : Int32)) else (if q15 = (118 : Int32) then (some (1 : Int32)) else (if q15 = (102 : Int32) then (some (2 : Int32)) else (some (3 : Int32))))) else (obd (fX12_ofHole σ 383 (nI f) p2 (nI k)) (fun q21 => some q21))))))) Q → zW (fX12_hole σ 383 (nI f) p2 (nI k)) Q := by
        intro Q hQ
        refine m0 _ (zW_ob (by rw [show (4 : Int32) = nI 4 from rfl, zLT.1]; exact z_isIn (by omega) (by omega) (by omega)) (zW_f zn01 (zW_ob (z_holes hM f5) ?_)))
        rw [en]
        exact hQ
      rcases zrg p2 (n := znH g f) (by omega) with ⟨i, hi, rfl⟩ | h2
      · refine zW_ob (z_has q3 (by omega) hi) (zW_f zn01 ?_)
        have m2 : ∀ Q, zW (if (nI k : Int32) = (4 : Int32) then (obd (fX12_able σ 383 (nI f) (nI i)) (fun q13 => some q13)) else (obd (fX12_ofHole σ 383 (nI f) (nI i) (0 : Int32)) (fun q15 => if (nI k : Int32) ≤ 0 then (if q15 = (110 : Int32) then (some (0 : Int32)) else (if q15 = (118 : Int32) then (some (1 : Int32)) else (if q15 = (102 : Int32) then (some (2 : Int32)) else (some (3 : Int32))))) else (obd (fX12_ofHole σ 383 (nI f) (nI i) (nI k)) (fun q21 => some q21))))) Q → zW (fX12_hole σ 383 (nI f) (nI i) (nI k)) Q := fun Q hQ => m1 Q (zW_ob (z_isInP hi (by omega)) (zW_f zn01 hQ))
        have o0 := z_ofHole (f := f) (i := i) (k := 0) hM f5 (by omega) (by omega)
        rw [Nat.add_zero] at o0
        obtain ⟨n, l1, l2, l3⟩ := zHo_l (hFm.2.2.1 i hi)
        have lit : ∀ a b : Nat, a < 5 → b < 5 → ((nI a = nI b) ↔ a = b) := fun a b h1 h2 => nI_eq (by omega) (by omega)
        rcases (by omega : k = 0 ∨ k = 1 ∨ k = 2 ∨ k = 3 ∨ k = 4) with q | q | q | q | q <;> subst q
        · refine zW_t rfl (zW_ob (z_sortOf hg hc hf hi) (zW_so (m2 _ ?_)))
          refine zW_f (by decide +kernel) (zW_ob o0 (zW_t (by decide +kernel) ?_))
          rw [l2, l1]
          rcases l3 with r | r | r | r <;> subst r
          · exact zW_t rfl (zW_so rfl)
          · exact zW_f (by decide +kernel) (zW_t rfl (zW_so rfl))
          · exact zW_f (by decide +kernel) (zW_f (by decide +kernel) (zW_t rfl (zW_so rfl)))
          · exact zW_f (by decide +kernel) (zW_f (by decide +kernel) (zW_f (by decide +kernel) (zW_so rfl)))
        · refine zW_f (by decide +kernel) (zW_t rfl (zW_ob (z_groupOf hg hc hf hi) (zW_so (m2 _ ?_))))
          exact zW_f (by decide +kernel) (zW_ob o0 (zW_f (by decide +kernel) (zW_ob (z_ofHole hM f5 (by omega) (by omega)) (zW_so rfl))))
        · refine zW_f (by decide +kernel) (zW_f (by decide +kernel) (zW_t rfl (zW_ob (z_caseOf hg hc hf hi) (zW_so (m2 _ ?_)))))
          exact zW_f (by decide +kernel) (zW_ob o0 (zW_f (by decide +kernel) (zW_ob (z_ofHole hM f5 (by omega) (by omega)) (zW_so rfl))))
        · refine zW_f (by decide +kernel) (zW_f (by decide +kernel) (zW_f (by decide +kernel) (zW_t rfl (zW_ob (z_plainOf hg hc hf hi) (zW_so (m2 _ ?_))))))
          exact zW_f (by decide +kernel) (zW_ob o0 (zW_f (by decide +kernel) (zW_ob (z_ofHole hM f5 (by omega) (by omega)) (zW_so rfl))))
        · refine zW_f (by decide +kernel) (zW_f (by decide +kernel) (zW_f (by decide +kernel) (zW_f (by decide +kernel) (zW_ob (z_wordsFor hg hc hN hf hi) (zW_so (m2 _ ?_))))))
          exact zW_t rfl (zW_ob (z_able hg hM hf hi) (zW_so rfl))
      · refine zW_ob (z_hasN q3 h2) (zW_t rfl (zW_so (m1 _ ?_)))
        exact zW_ob (z_isInN (z_pred (by omega) h2)) (zW_t rfl (zW_so rfl))
    · have mr : zW (fX12_hole σ 383 (nI f) p2 p3) (fun s => s = -nI 2) := m0 _ (zW_ob (by rw [show (4 : Int32) = nI (5 - 1) from rfl, zLT.1]; exact z_isInX (by omega) (by omega) h3) (zW_t rfl (zW_so rfl)))
      refine zW_if (fun q => zW_so mr) (fun q => ?_)
      refine zW_f ?_ (zW_so mr)
      rcases h3 with h3 | h3
      · exact absurd h3 q
      · intro q'
        obtain ⟨j, hj, rfl⟩ := nI_of q
        simp (disch := omega) only [zLT, zC] at q' h3
        omega
  obtain ⟨r, e, s, e2, rfl⟩ := key
  exact ⟨s, e, e2⟩
