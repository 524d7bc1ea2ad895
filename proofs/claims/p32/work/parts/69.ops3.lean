/-- the row with one hole's word anew -/
theorem z_op_choose {σ : Mem} {g : Nat → Int32} (h : zIv σ g) (p1 p2 : Int32) : zOp σ (fun σ => fX11_choose σ 0 p1 p2) (fun τ => fX12_choose τ 383 p1 p2) := by
  have hg := h.2.1
  have hc := h.2.2.1
  have hM := h.1
  have hN := h.2.2.2.1
  have hW : znW g ≤ 20 := hg.1.2
  have hF : znF g ≤ 5 := hg.2.1.2
  obtain ⟨d1, d2, d3, d4⟩ := hc.2.2.2.2.2.2
  have e2 : σ (383 + 1) (ix 2) = g 2 := by simp (disch := omega) only [zLT, Nat.reduceAdd, zI]; exact hM 2 (by omega)
  have gd : inb (2 : Int32) (ln (383 + 1)) = true := by simp (disch := omega) only [zLT, Nat.reduceAdd, zl_c, zI]
  rcases zrg p2 (n := znW g) (by omega) with ⟨w, hw, rfl⟩ | h1
  rotate_left
  · refine zO_e (r := -nI 2) (τ := σ) (υ := σ) ?_ ?_ h
    · unfold fX11_choose
      rw [Nat.zero_add, z_wordAtN hg hc h1]; rfl
    · unfold fX12_choose
      rw [z_isWordN hg hM h1]; rfl
  refine zO_op ?_
  show zW (fX11_choose σ 0 p1 (nI w)) _
  unfold fX11_choose
  simp only [Nat.zero_add]
  refine zW_ob (z_wordAt hg hc hw) ?_
  rw [zE_ocss]
  rw [show σ (3 + 7) 0 = g 2 from d1]
  have m0 : ∀ (Q : Int32 × Mem → Prop), zW (if 0 ≤ g 2 then (grd (inb (2 : Int32) (ln (383 + 1))) (obd (fX12_holes σ 383 (g 2)) (fun q5 => obd (fX12_isIn σ p1 (0 : Int32) (q5 - (1 : Int32))) (fun q7 => if q7 = 0 then (some ((-12 : Int32), σ)) else (grd (inb (2 : Int32) (ln (383 + 1))) (obd (fX12_canBe σ 383 (g 2) p1 (nI w)) (fun q10 => if q10 = 0 then (some ((-13 : Int32), σ)) else (grd (inb ((7 : Int32) + p1) (ln (383 + 1))) (bnd (σ (383 + 1) (ix ((7 : Int32) + p1))) (fun x13 => grd (inb ((7 : Int32) + p1) (ln (383 + 1))) (bnd (mw σ (383 + 1) (ix ((7 : Int32) + p1)) (nI w)) (fun m14 => some (x13, m14))))))))))))) else (some ((-3 : Int32), σ))) Q → zW (fX12_choose σ 383 p1 (nI w)) Q := by
    intro Q hQ
    unfold fX12_choose
    refine zW_ob (z_isWord hg hM hw) (zW_f zn01 (zW_gd gd ?_))
    rw [e2]
    exact hQ
  rcases hg.2.2.2.2.2.2.1 with hd | ⟨f, hf, hd, hdw⟩
  · rw [hd]
    refine zW_ob (z_frameAtN hg hc (Or.inl (by decide +kernel))) ?_
    rw [zE_ocsn]
    exact zW_so (m0 _ (zW_f (by rw [hd]; decide +kernel) (zW_so ⟨rfl, g, h⟩)))
  · obtain ⟨f5, hFm, hB, q3, q4, q5⟩ := zF_n hg hc hf
    have en : g (zfa f) = nI (znH g f) := hFm.1.1
    rw [hd]
    refine zW_ob (z_frameAt hg hc hf) ?_
    rw [zE_ocss]
    have m1 : ∀ (Q : Int32 × Mem → Prop), zW (obd (fX12_isIn σ p1 (nI 0) (nI (znH g f) - nI 1)) (fun q7 => if q7 = 0 then (some ((-12 : Int32), σ)) else (grd (inb (2 : Int32) (ln (383 + 1))) (obd (fX12_canBe σ 383 (nI f) p1 (nI w)) (fun q10 => if q10 = 0 then (some ((-13 : Int32), σ)) else (grd (inb ((7 : Int32) + p1) (ln (383 + 1))) (bnd (σ (383 + 1) (ix ((7 : Int32) + p1))) (fun x13 => grd (inb ((7 : Int32) + p1) (ln (383 + 1))) (bnd (mw σ (383 + 1) (ix ((7 : Int32) + p1)) (nI w)) (fun m14 => some (x13, m14))))))))))) Q → zW (fX12_choose σ 383 p1 (nI w)) Q := by
      intro Q hQ
      refine m0 Q (zW_t (by rw [hd]; exact nI_pos' (by omega)) (zW_gd gd ?_))
      rw [hd]
      refine zW_ob (z_holes hM f5) ?_
      rw [en]
      exact hQ
    rcases zrg p1 (n := znH g f) (by omega) with ⟨i, hi, rfl⟩ | h2
    · refine zW_ob (z_has q3 (by omega) hi) (zW_f zn01 ?_)
      refine zW_ob (z_takes hg hc hN hf hi hw) ?_
      cases hcan : zcan g f i w with
      | false =>
        refine zW_t rfl (zW_so (m1 _ (zW_ob (z_isInP hi (by omega)) (zW_f zn01 (zW_gd gd (zW_ob (z_canBe hg hM hf hi hw) ?_))))))
        rw [hcan]
        exact zW_t rfl (zW_so ⟨rfl, g, h⟩)
      | true =>
        refine zW_f zn01 ?_
        have ew : σ 11 i = g (7 + i) := d4 f hf hd i hi
        refine zW_ob (x := g (7 + i)) (by rw [z_wordIn (F := 3 + 7) zl_11 (by omega), zi_ix (by omega)]; exact congrArg some ew) ?_
        refine zW_ob (z_fill (F := 3 + 7) zl_11 (by omega)) (zW_so ?_)
        dsimp only
        -- the row anew
        generalize hg' : (fun k => if k = 7 + i then nI w else g k) = g'
        have e1 : ∀ k, k ≠ 7 + i → g' k = g k := fun k hk => by rw [← hg']; exact if_neg hk
        have e3 : g' (7 + i) = nI w := by rw [← hg']; exact if_pos rfl
        have o : ∀ k, k < 2 ∨ 13 ≤ k → g' k = g k := fun k hk => e1 k (by omega)
        have nF : znF g' = znF g := by show ix (g' 1) = _; rw [e1 1 (by omega)]
        have nW : znW g' = znW g := by show ix (g' 0) = _; rw [e1 0 (by omega)]
        have nH : ∀ f, znH g' f = znH g f := fun f => by
          show ix (g' (zfa f)) = ix (g (zfa f))
          rw [e1 _ (by show 342 + 25 * f ≠ 7 + i; omega)]
        have cn : ∀ f k w, k < 6 → zcan g' f k w = zcan g f k w := fun f k w hk => zcan_cg (fun j _ => o _ (by right; show 13 ≤ 342 + 25 * f + j; omega)) hk (o _ (by right; show 13 ≤ 14 + 10 * w; omega))
        have bg' : zBG g' := by
          refine zBG_dk o hg ⟨Or.inr ⟨f, by rw [nF]; exact hf, by rw [e1 2 (by omega)]; exact hd, fun k hk => ?_⟩, by rw [e1 3 (by omega)]; exact hg.2.2.2.2.2.2.2.1, by rw [e1 4 (by omega)]; exact hg.2.2.2.2.2.2.2.2.1, by rw [e1 5 (by omega)]; exact hg.2.2.2.2.2.2.2.2.2.1, by rw [e1 6 (by omega)]; exact hg.2.2.2.2.2.2.2.2.2.2⟩
          rw [nH] at hk
          by_cases q : k = i
          · subst q
            exact Or.inr ⟨w, by rw [nW]; exact hw, by rw [cn f k w (by omega)]; exact hcan, e3⟩
          · rw [e1 _ (by omega)]
            exact (hdw k hk).imp id (fun ⟨w', a, b, c⟩ => ⟨w', by rw [nW]; exact a, by rw [cn f k w' (by omega)]; exact b, c⟩)
        have cb' : zCB (mw (mw σ 11 i (nI w)) 384 (7 + i) (nI w)) 3 g' := by
          refine zCB_dk o hg hc (fun a k p q r s => by simp (disch := omega) only [zM]) ⟨?_, ?_, ?_, fun f' hf' he k hk => ?_⟩
          · simp (disch := omega) only [zM]
            rw [e1 2 (by omega)]; exact d1
          · simp (disch := omega) only [zM]
            rw [e1 3 (by omega)]; exact d2
          · simp (disch := omega) only [zM]
            unfold zbt
            rw [e1 4 (by omega), e1 5 (by omega), e1 6 (by omega)]
            exact d3
          · rw [nF] at hf'
            rw [e1 2 (by omega), hd] at he
            have : f' = f := by simp (disch := omega) only [zC] at he; exact he.symm
            subst this
            rw [nH] at hk
            by_cases q : k = i
            · subst q
              simp (disch := omega) only [zM]
              exact e3.symm
            · simp (disch := omega) only [zM]
              rw [e1 _ (by omega)]
              exact d4 f' hf hd k hk
        have hMt : zMG (mw σ 11 i (nI w)) g := fun k hk => by simp (disch := omega) only [zM]; exact hM k hk
        unfold fX12_choose
        refine zW_ob (z_isWord hg hMt hw) (zW_f zn01 (zW_gd gd ?_))
        have e2' : (mw σ (3 + 7 + 1) i (nI w)) (383 + 1) (ix 2) = nI f := by simp (disch := omega) only [zLT, Nat.reduceAdd, zI, zM]; exact (hM 2 (by omega)).trans hd
        rw [e2']
        refine zW_t (nI_pos' (by omega)) (zW_gd gd (zW_ob (z_holes hMt f5) ?_))
        rw [en]
        refine zW_ob (z_isInP hi (by omega)) (zW_f zn01 (zW_gd gd (zW_ob (z_canBe hg hMt hf hi hw) ?_)))
        rw [hcan]
        refine zW_f zn01 ?_
        have gi : inb ((7 : Int32) + nI i) (ln (383 + 1)) = true := by simp (disch := omega) only [zLT, Nat.reduceAdd, zl_c, zI]
        have ei : ix ((7 : Int32) + nI i) = 7 + i := by simp (disch := omega) only [zLT, zI]
        refine zW_gd gi (zW_bv (g (7 + i)) ?_ (zW_gd gi (zW_so ⟨rfl, g', ?_⟩)))
        · rw [ei]
          simp (disch := omega) only [Nat.reduceAdd, zM]
          exact hM _ (by omega)
        · rw [ei]
          show zIv (mw (mw σ 11 i (nI w)) 384 (7 + i) (nI w)) g'
          refine zIv_bk h (fun x c p => by simp (disch := omega) only [zM]) (fun k hk => ?_) bg' cb' (zNG_co hN (fun a k p q _ => by simp (disch := omega) only [zM]) (fun a k p q => by simp (disch := omega) only [zM])) (zTP_co h.2.2.2.2.2.1 (fun k => by simp (disch := omega) only [zM]) (fun k => by simp (disch := omega) only [zM]) (by simp (disch := omega) only [zM]) (fun k => by simp (disch := omega) only [zM]))
          by_cases q : k = 7 + i
          · subst q; simp only [zM]; exact e3.symm
          · simp (disch := omega) only [zM]
            rw [e1 _ q]; exact hM k hk
    · refine zW_ob (z_hasN q3 h2) (zW_t rfl (zW_so (m1 _ ?_)))
      exact zW_ob (z_isInN (z_pred (by omega) h2)) (zW_t rfl (zW_so ⟨rfl, g, h⟩))
theorem z_nbit : ∀ nb gr n, nb < 8 → gr < 3 → n < 2 → ((nI nb &&& (((1 : Int32) <<< (nI gr &&& 31)) ^^^ (-1 : Int32))) ||| (nI n <<< (nI gr &&& 31))) = nI (nb - 2 ^ gr * (nb / 2 ^ gr % 2) + 2 ^ gr * n) := by
  have h : ∀ nb : Fin 8, ∀ gr : Fin 3, ∀ n : Fin 2, ((nI nb.1 &&& (((1 : Int32) <<< (nI gr.1 &&& 31)) ^^^ (-1 : Int32))) ||| (nI n.1 <<< (nI gr.1 &&& 31))) = nI (nb.1 - 2 ^ gr.1 * (nb.1 / 2 ^ gr.1 % 2) + 2 ^ gr.1 * n.1) := by decide +kernel
  exact fun nb gr n h1 h2 h3 => h ⟨nb, h1⟩ ⟨gr, h2⟩ ⟨n, h3⟩
theorem z_op_number {σ : Mem} {g : Nat → Int32} (h : zIv σ g) (p1 p2 : Int32) : zOp σ (fun σ => fX11_number σ 0 p1 p2) (fun τ => fX12_number τ 383 p1 p2) := by
  have hg := h.2.1
  have hc := h.2.2.1
  have hM := h.1
  have hN := h.2.2.2.1
  have hb := zbt_lt hg
  obtain ⟨-, -, h4, h5, h6⟩ := hg.2.2.2.2.2.2
  obtain ⟨d1, d2, d3, d4⟩ := hc.2.2.2.2.2.2
  have h4' := h4.2
  have h5' := h5.2
  have h6' := h6.2
  rcases zrg p1 (n := 3) (by omega) with ⟨gr, hgr, rfl⟩ | h1
  rotate_left
  · refine zO_e (r := -nI 2) (τ := σ) (υ := σ) ?_ ?_ h
    · unfold fX11_number
      rw [show (3 : Int32) = nI 3 from rfl, z_belowN h1]; rfl
    · unfold fX12_number
      rw [show (2 : Int32) = nI (3 - 1) from rfl, zLT.1, z_isInX (by omega) (by omega) h1]; rfl
  rcases zrg p2 (n := 2) (by omega) with ⟨n, hn, rfl⟩ | h2
  rotate_left
  · refine zO_e (r := -nI 2) (τ := σ) (υ := σ) ?_ ?_ h
    · unfold fX11_number
      rw [show (3 : Int32) = nI 3 from rfl, z_below hgr (by omega)]
      simp only [zE, zLT, zn01, if_false]
      rw [z_belowN h2]; rfl
    · unfold fX12_number
      rw [show (2 : Int32) = nI 2 from rfl, show (1 : Int32) = nI (2 - 1) from rfl, zLT.1, z_isIn (by omega) (by omega) (by omega), z_isInX (by omega) (by omega) h2]; rfl
  have gd : inb (2 : Int32) (ln (383 + 1)) = true := by simp (disch := omega) only [zLT, Nat.reduceAdd, zl_c, zI]
  have m0 : ∀ (τ : Mem) (Q : Int32 × Mem → Prop), τ 384 2 = g 2 → zW (if 0 ≤ g 2 then (grd (inb ((4 : Int32) + nI gr) (ln (383 + 1))) (bnd (τ (383 + 1) (ix ((4 : Int32) + nI gr))) (fun x8 => grd (inb ((4 : Int32) + nI gr) (ln (383 + 1))) (bnd (mw τ (383 + 1) (ix ((4 : Int32) + nI gr)) (nI n)) (fun m9 => some (x8, m9)))))) else (some ((-3 : Int32), τ))) Q → zW (fX12_number τ 383 (nI gr) (nI n)) Q := by
    intro τ Q e hQ
    unfold fX12_number
    refine zW_ob (by rw [show (2 : Int32) = nI 2 from rfl, zLT.1]; exact z_isIn (by omega) (by omega) (by omega)) (zW_f zn01 ?_)
    refine zW_ob (by rw [zLT.2.1, zLT.1]; exact z_isIn (by omega) (by omega) (by omega)) (zW_f zn01 (zW_gd gd ?_))
    have e' : τ (383 + 1) (ix 2) = g 2 := by simp (disch := omega) only [zLT, Nat.reduceAdd, zI]; exact e
    rw [e']
    exact hQ
  refine zO_op ?_
  show zW (fX11_number σ 0 (nI gr) (nI n)) _
  unfold fX11_number
  refine zW_ob (z_below (b := 3) hgr (by omega)) (zW_f zn01 ?_)
  refine zW_ob (z_below (b := 2) hn (by omega)) (zW_f zn01 ?_)
  simp only [Nat.zero_add]
  rw [show σ (3 + 7) 0 = g 2 from d1]
  rcases hg.2.2.2.2.2.2.1 with hd | ⟨f, hf, hd, hdw⟩
  · refine zW_t (by rw [hd]; rfl) (zW_so (m0 _ _ (hM 2 (by omega)) (zW_f (by rw [hd]; decide +kernel) (zW_so ⟨rfl, g, h⟩))))
  · have hF : znF g ≤ 5 := hg.2.1.2
    refine zW_f (by rw [hd]; simp (disch := omega) only [zLT, zC]; exact fun h => h) ?_
    have ew : σ (3 + 7) 2 = nI (zbt g) := d3
    refine zW_bv (nI (zbt g / 2 ^ gr % 2)) (by rw [ew, zLT.2.1]; exact z_bit _ _ hb hgr) ?_
    refine zW_bv (mw σ 10 2 (nI (zbt g - 2 ^ gr * (zbt g / 2 ^ gr % 2) + 2 ^ gr * n))) (by rw [ew, z_nbit _ _ _ hb hgr hn]) ?_
    refine zW_so ?_
    dsimp only
    generalize hg' : (fun k => if k = 4 + gr then nI n else g k) = g'
    have e1 : ∀ k, k ≠ 4 + gr → g' k = g k := fun k hk => by rw [← hg']; exact if_neg hk
    have e3 : g' (4 + gr) = nI n := by rw [← hg']; exact if_pos rfl
    have o : ∀ k, k < 2 ∨ 13 ≤ k → g' k = g k := fun k hk => e1 k (by omega)
    have nF : znF g' = znF g := by show ix (g' 1) = _; rw [e1 1 (by omega)]
    have nW : znW g' = znW g := by show ix (g' 0) = _; rw [e1 0 (by omega)]
    have nH : ∀ f, znH g' f = znH g f := fun f => by
      show ix (g' (zfa f)) = ix (g (zfa f))
      rw [e1 _ (by show 342 + 25 * f ≠ 4 + gr; omega)]
    have cn : ∀ f k w, k < 6 → zcan g' f k w = zcan g f k w := fun f k w hk => zcan_cg (fun j _ => o _ (by right; show 13 ≤ 342 + 25 * f + j; omega)) hk (o _ (by right; show 13 ≤ 14 + 10 * w; omega))
    have n1 : zNI (nI n) 1 := zNI_of (by omega) (by omega)
    have s4 : zNI (g' 4) 1 := by
      by_cases q : 4 = 4 + gr
      · rw [q, e3]; exact n1
      · rw [e1 4 q]; exact h4
    have s5 : zNI (g' 5) 1 := by
      by_cases q : 5 = 4 + gr
      · rw [q, e3]; exact n1
      · rw [e1 5 q]; exact h5
    have s6 : zNI (g' 6) 1 := by
      by_cases q : 6 = 4 + gr
      · rw [q, e3]; exact n1
      · rw [e1 6 q]; exact h6
    have bg' : zBG g' := by
      have h6m := (hg.2.2.2.2.1 f hf).1.2
      refine zBG_dk o hg ⟨Or.inr ⟨f, by rw [nF]; exact hf, by rw [e1 2 (by omega)]; exact hd, fun k hk => ?_⟩, by rw [e1 3 (by omega)]; exact hg.2.2.2.2.2.2.2.1, s4, s5, s6⟩
      rw [nH] at hk
      have hk6 : k < 6 := Nat.lt_of_lt_of_le hk h6m
      rw [e1 _ (by omega)]
      exact (hdw k hk).imp id (fun ⟨w', a, b, c⟩ => ⟨w', by rw [nW]; exact a, by rw [cn f k w' hk6]; exact b, c⟩)
    have hbt : zbt g' = zbt g - 2 ^ gr * (zbt g / 2 ^ gr % 2) + 2 ^ gr * n ∧ g (4 + gr) = nI (zbt g / 2 ^ gr % 2) := by
      unfold zbt
      rcases (by omega : gr = 0 ∨ gr = 1 ∨ gr = 2) with q | q | q <;> subst q
      · rw [show g' 4 = nI n from e3, e1 5 (by omega), e1 6 (by omega), zi_ix (by omega)]
        refine ⟨by omega, ?_⟩
        exact h4.1.trans (congrArg nI (by omega))
      · rw [show g' 5 = nI n from e3, e1 4 (by omega), e1 6 (by omega), zi_ix (by omega)]
        refine ⟨by omega, ?_⟩
        exact h5.1.trans (congrArg nI (by omega))
      · rw [show g' 6 = nI n from e3, e1 4 (by omega), e1 5 (by omega), zi_ix (by omega)]
        refine ⟨by omega, ?_⟩
        exact h6.1.trans (congrArg nI (by omega))
    rw [← hbt.1]
    refine m0 _ _ (by simp (disch := omega) only [zM]; exact hM 2 (by omega)) (zW_t (by rw [hd]; exact nI_pos' (by omega)) ?_)
    have gi : inb ((4 : Int32) + nI gr) (ln (383 + 1)) = true := by simp (disch := omega) only [zLT, Nat.reduceAdd, zl_c, zI]
    have ei : ix ((4 : Int32) + nI gr) = 4 + gr := by simp (disch := omega) only [zLT, zI]
    refine zW_gd gi (zW_bv (nI (zbt g / 2 ^ gr % 2)) ?_ (zW_gd gi (zW_so ⟨rfl, g', ?_⟩)))
    · rw [ei]
      simp (disch := omega) only [Nat.reduceAdd, zM]
      exact (hM _ (by omega)).trans hbt.2
    · rw [ei]
      show zIv (mw (mw σ 10 2 (nI (zbt g'))) 384 (4 + gr) (nI n)) g'
      refine zIv_bk h (fun x c p => by simp (disch := omega) only [zM]) (fun k hk => ?_) bg' ?_ (zNG_co hN (fun a k p q _ => by simp (disch := omega) only [zM]) (fun a k p q => by simp (disch := omega) only [zM])) (zTP_co h.2.2.2.2.2.1 (fun k => by simp (disch := omega) only [zM]) (fun k => by simp (disch := omega) only [zM]) (by simp (disch := omega) only [zM]) (fun k => by simp (disch := omega) only [zM]))
      · by_cases q : k = 4 + gr
        · subst q; simp only [zM]; exact e3.symm
        · simp (disch := omega) only [zM]
          rw [e1 _ q]; exact hM k hk
      · refine zCB_dk o hg hc (fun a k p q r s => by simp (disch := omega) only [zM]) ⟨?_, ?_, ?_, fun f' hf' he k hk => ?_⟩
        · simp (disch := omega) only [zM]
          rw [e1 2 (by omega)]; exact d1
        · simp (disch := omega) only [zM]
          rw [e1 3 (by omega)]; exact d2
        · simp (disch := omega) only [zM]
        · rw [nF] at hf'
          rw [nH] at hk
          have h6m := (hg.2.2.2.2.1 f' hf').1.2
          have hk6 : k < 6 := Nat.lt_of_lt_of_le hk h6m
          simp (disch := omega) only [zM]
          rw [e1 2 (by omega)] at he
          rw [e1 _ (by omega)]
          exact d4 f' hf' he k hk
