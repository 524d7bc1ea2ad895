theorem zW_lpS {α β : Type} {step : α → Option (α ⊕ β)} {Q : β → Prop} {n : Nat} {a : α} (h : zW (step a) (fun r => match r with | .inl a' => zW (lp step n a') Q | .inr b => Q b)) : zW (lp step (n + 1) a) Q := by
  obtain ⟨r, e, h⟩ := h
  unfold lp
  rw [dif_neg (by omega), e]
  cases r with
  | inl a' => exact h
  | inr b => exact ⟨b, rfl, h⟩
/-- one number of a group is drawn -/
theorem z_drawNum {τ : Mem} {n acc b : Nat} {Z : Int32} {q2 : Int32 × Mem} (hn : n < 3) (hZ : τ 356 1 = Z) (hb : zdr (znx Z) 2 = b) (ht : τ 357 2 = nI acc) (hacc : acc < 2 ^ n) (hb2 : b < 2) :
    sX1_draw_30 356 3 q2 (nI n, τ) = some (.inl (nI (n + 1), mw (mw τ 356 1 (znx Z)) 357 2 (nI (acc + 2 ^ n * b)))) := by
  refine zW_val ?_
  unfold sX1_draw_30
  dsimp only
  refine zW_f (by simp (disch := omega) only [zLT, zC]; omega) ?_
  refine zW_ob (x := (nI b, mw τ 356 1 (znx Z))) ?_ ?_
  · rw [zLT.2.2.1, z_next (by omega), hZ, if_neg (by omega), hb]
  dsimp only
  refine zW_bv (mw (mw τ 356 1 (znx Z)) 357 2 (nI (acc + 2 ^ n * b))) ?_ ?_
  · rw [show τ (356 + 1) 2 = nI acc from ht, z_or n acc b hn hacc hb2]
  · refine zW_oL ?_
    simp only [zLT, zI]
theorem z_draw {σ : Mem} {g : Nat → Int32} {seed : Int32} (hg : zBG g) (hc : zCB σ 3 g) (hn : zNG σ) (hF : 0 < znF g) :
    ∃ r τ, fX1_draw σ 356 3 seed = some (r, τ) ∧ zDd σ τ ∧ ((r = nI 1 ∧ τ 357 0 = nI (zdf g seed) ∧ τ 357 1 = nI (zdm seed) ∧ τ 357 2 = nI (zdn seed) ∧ ∀ k, k < znH g (zdf g seed) → ∃ w, zdo g (zdf g seed) (zd5 seed) k = some w ∧ τ 358 k = nI w)
      ∨ (r = nI 0 ∧ ∃ k, k < znH g (zdf g seed) ∧ zdo g (zdf g seed) (zd5 seed) k = none)) := by
  have hnF : znF g ≤ 5 := hg.2.1.2
  have hf : zdf g seed < znF g := zdr_lt hF
  have e5 : σ 3 5 = nI (znF g) := hc.1.2.trans hg.2.1.1
  obtain ⟨Z1, Z2, Z3, Z4, n1, n2, n3, n4, n5, d1, d2, d3, d4, d5⟩ := zd_names g seed
  have d7 : zdb seed 0 + 2 * zdb seed 1 + 4 * zdb seed 2 = zdn seed := rfl
  have hb0 := zdb_lt seed 0
  have hb1 := zdb_lt seed 1
  have hb2 := zdb_lt seed 2
  generalize zdb seed 0 = B0 at *
  generalize zdb seed 1 = B1 at *
  generalize zdb seed 2 = B2 at *
  generalize zdn seed = NN' at *
  generalize zd5 seed = Z5 at *
  generalize zdf g seed = f at *
  generalize zdm seed = md at *
  have key : zW (fX1_draw σ 356 3 seed) (fun x => zDd σ x.2 ∧ ((x.1 = nI 1 ∧ x.2 357 0 = nI f ∧ x.2 357 1 = nI md ∧ x.2 357 2 = nI NN' ∧ ∀ k, k < znH g f → ∃ w, zdo g f Z5 k = some w ∧ x.2 358 k = nI w)
      ∨ (x.1 = nI 0 ∧ ∃ k, k < znH g f ∧ zdo g f Z5 k = none))) := by
    unfold fX1_draw
    refine zW_bv (mw σ 356 1 seed) rfl ?_
    have m5 : (mw σ 356 1 seed) 3 5 = nI (znF g) := by simp (disch := omega) only [zM]; exact e5
    rw [m5]
    have z1 : (mw σ 356 1 seed) 356 1 = seed := by simp only [zM]
    refine zW_ob (x := (nI f, mw (mw σ 356 1 seed) 356 1 Z1)) ?_ ?_
    · rw [z_next (by omega), z1, if_neg (by omega), n1, d1]
    dsimp only
    have z2 : (mw (mw σ 356 1 seed) 356 1 Z1) 356 1 = Z1 := by simp only [zM]
    refine zW_ob (x := (nI md, mw (mw (mw σ 356 1 seed) 356 1 Z1) 356 1 Z2)) ?_ ?_
    · rw [zLT.2.2.2.2.1, z_next (by omega), z2, if_neg (by omega), n2, d2]
    dsimp only
    obtain ⟨τ1, b1, b2, b3, b4, b5, b6⟩ := z_fillBegin (σ := mw (mw (mw σ 356 1 seed) 356 1 Z1) 356 1 Z2) (F := 357) (a := nI f) (b := nI md) zl_c.2.2.2.2.2.2.2.2.2.2.2.1
    refine zW_ob b1 ?_
    have f1 : zDd σ τ1 := fun x c p => by rw [b6 x c (by omega) (by omega)]; simp (disch := omega) only [zM]
    have z3 : τ1 356 1 = Z2 := by rw [b6 _ _ (by omega) (by omega)]; simp only [zM]
    have eFU : FU = 996 + 1 + 1 + 1 + 1 := rfl
    rw [eFU, zLT.1]
    have s1 := z_drawNum (q2 := (nI f, mw (mw σ 356 1 seed) 356 1 Z1)) (n := 0) (acc := 0) (b := B0) (by omega) z3 (by rw [n3]; exact d3) b4 (by omega) hb0
    generalize hT2 : mw (mw τ1 356 1 (znx Z2)) 357 2 (nI (0 + 2 ^ 0 * B0)) = τ2 at s1
    have g2 : τ2 356 1 = Z3 ∧ τ2 357 2 = nI B0 ∧ τ2 357 0 = nI f ∧ τ2 357 1 = nI md ∧ zDd σ τ2 := by
      subst hT2
      refine ⟨by simp (disch := omega) only [zM]; exact n3, ?_, by simp (disch := omega) only [zM]; exact b2, by simp (disch := omega) only [zM]; exact b3, fun x c p => by simp (disch := omega) only [zM]; exact f1 x c p⟩
      simp only [zM]
      congr 1; omega
    refine zW_lpS (zW_eq s1 ?_)
    have s2 := z_drawNum (q2 := (nI f, mw (mw σ 356 1 seed) 356 1 Z1)) (n := 1) (acc := B0) (b := B1) (by omega) g2.1 (by rw [n4]; exact d4) g2.2.1 (by omega) hb1
    generalize hT3 : mw (mw τ2 356 1 (znx Z3)) 357 2 (nI (B0 + 2 ^ 1 * B1)) = τ3 at s2
    have g3 : τ3 356 1 = Z4 ∧ τ3 357 2 = nI (B0 + 2 * B1) ∧ τ3 357 0 = nI f ∧ τ3 357 1 = nI md ∧ zDd σ τ3 := by
      subst hT3
      refine ⟨by simp (disch := omega) only [zM]; exact n4, ?_, by simp (disch := omega) only [zM]; exact g2.2.2.1, by simp (disch := omega) only [zM]; exact g2.2.2.2.1, fun x c p => by simp (disch := omega) only [zM]; exact g2.2.2.2.2 x c p⟩
      simp only [zM]
    refine zW_lpS (zW_eq s2 ?_)
    have s3 := z_drawNum (q2 := (nI f, mw (mw σ 356 1 seed) 356 1 Z1)) (n := 2) (acc := B0 + 2 * B1) (b := B2) (by omega) g3.1 (by rw [n5]; exact d5) g3.2.1 (by omega) hb2
    generalize hT4 : mw (mw τ3 356 1 (znx Z4)) 357 2 (nI (B0 + 2 * B1 + 2 ^ 2 * B2)) = τ4 at s3
    have g4 : τ4 356 1 = Z5 ∧ τ4 357 2 = nI NN' ∧ τ4 357 0 = nI f ∧ τ4 357 1 = nI md ∧ zDd σ τ4 := by
      subst hT4
      refine ⟨by simp (disch := omega) only [zM]; exact n5, ?_, by simp (disch := omega) only [zM]; exact g3.2.2.1, by simp (disch := omega) only [zM]; exact g3.2.2.2.1, fun x c p => by simp (disch := omega) only [zM]; exact g3.2.2.2.2 x c p⟩
      simp only [zM]
      congr 1
    refine zW_lpS (zW_eq s3 ?_)
    refine zW_lpS ?_
    unfold sX1_draw_30
    dsimp only
    refine zW_t (by decide +kernel) ?_
    refine zW_oR ?_
    have c4 : zCB τ4 3 g := zCB_co hg hc (fun a k p q => g4.2.2.2.2 a k (by omega))
    have n4 : zNG τ4 := zNG_co hn (fun a k p q _ => g4.2.2.2.2 a k (by omega)) (fun a k p q => g4.2.2.2.2 a k (by omega))
    refine zW_ob (z_frameAt hg c4 hf) ?_
    rw [zE_ocss]
    refine zW_mono (z_drawHoles hg c4 n4 hf g4.2.2.1 g4.2.2.2.1 g4.2.1 g4.1) ?_
    rintro ⟨r, υ⟩ ⟨p1, p2⟩
    exact ⟨fun x c p => by rw [p1 x c p]; exact g4.2.2.2.2 x c p, p2⟩
  obtain ⟨⟨r, τ⟩, e, h1, h2⟩ := key
  exact ⟨r, τ, e, h1, h2⟩
