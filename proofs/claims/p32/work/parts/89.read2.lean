/-- what holds while the class reads -/
def zXc (g : Nat → Int32) (σ : Mem) (l : List Nat) : Prop := zBG g ∧ zCB σ 3 g ∧ zL σ 1 l ∧ l.length ≤ 50
def zXp (σ τ : Mem) (p : Nat) : Prop := τ 341 1 = nI p ∧ ∀ x c, ¬ (341 ≤ x ∧ x ≤ 347) → τ x c = σ x c
theorem zXs_mv {σ τ : Mem} {hs : List zHt} {p q : Nat} (h : zXs σ τ hs p) : zXs σ (mw τ 341 1 (nI q)) hs q := by
  obtain ⟨h1, h2, h3, h4, h5⟩ := h
  refine ⟨by simp only [zM], by simp (disch := omega) only [zM]; exact h2, fun k hk => by simp (disch := omega) only [zM]; exact h3 k hk, fun gr hg => by simp (disch := omega) only [zM]; exact h4 gr hg, fun x c q => by simp (disch := omega) only [zM]; exact h5 x c q⟩
theorem zXs_p {σ τ : Mem} {hs : List zHt} {p : Nat} (h : zXs σ τ hs p) : zXp σ τ p := ⟨h.1, h.2.2.2.2⟩
theorem zXc_co {g : Nat → Int32} {σ τ : Mem} {l : List Nat} (h : zXc g σ l) (e : ∀ x c, ¬ (341 ≤ x ∧ x ≤ 347) → τ x c = σ x c) : zXc g τ l := ⟨h.1, zCB_co h.1 h.2.1 (fun a k p q => e a k (by omega)), zL_cb h.2.2.1 (fun a k p q => e a k (by omega)), h.2.2.2⟩
/-- what a reading of one hole gives -/
def zXr (g : Nat → Int32) (σ : Mem) (l : List Nat) (hs : List zHt) (p : Nat) (r : Int32 × Mem) : Prop := (∃ h p', zhr g l hs p = .inr (h, p') ∧ r.1 = nI 1 ∧ zXs σ r.2 (hs ++ [h]) p') ∨ ∃ e, zhr g l hs p = .inl e ∧ r.1 = nI 0 ∧ zXp σ r.2 e
theorem z_rPlain {g : Nat → Int32} {σ τ : Mem} {l : List Nat} {hs : List zHt} {p : Nat} (c : zXc g σ l) (h : zXs σ τ hs (p + 1)) (h6 : hs.length < 6) (hp : p < l.length) (hl : l.getD p 0 = 112) : zW (fX4_readPlain τ 341 3 1) (zXr g σ l hs p) := by
  have cτ := zXc_co c h.2.2.2.2
  obtain ⟨hg, hcb, ht, hl50⟩ := cτ
  have n20 : znW g ≤ 20 := hg.1.2
  have fr := h.2.2.2.2
  have h1 := h.1
  have bad : ∀ e, zhr g l hs p = .inl e → e = p + 1 → zW (some ((0 : Int32), τ)) (zXr g σ l hs p) := fun e he e2 => zW_so (Or.inr ⟨p + 1, by rw [he, e2], rfl, h1, fr⟩)
  -- a word by its number
  have wd : ∀ (q1 q3 : Int32) (w n : Nat), w < 200 → ¬ q1 = (-1 : Int32) → ((n = 1 ∧ q3 = (-1 : Int32)) ∨ (n = 2 ∧ ¬ q3 = (-1 : Int32))) → zhr g l hs p = zpl g p w (p + 1 + n) → zW (obd (fX0_wordAt τ 3 (nI w)) (fun q6 => ocs q6 (if q1 = (-1 : Int32) then (some ((0 : Int32), τ)) else (some ((0 : Int32), τ))) (fun w8 => if q1 = (-1 : Int32) then (some ((0 : Int32), τ)) else (if (τ w8 2) = 0 then (bnd (fun (y12 : Int32) => bnd (mw τ 341 1 ((nI (p + 1)) + y12)) (fun m13 => obd (fX3_add m13 (341 + 1) (3 : Int32) (-1 : Int32) (-1 : Int32) (nI w)) (fun q14 => some ((1 : Int32), q14)))) (fun k12 => if q3 = (-1 : Int32) then (k12 (1 : Int32)) else (k12 (2 : Int32)))) else (some ((0 : Int32), τ)))))) (zXr g σ l hs p) := by
    intro q1 q3 w n hw2 hq1 hn he
    by_cases hw : w < znW g
    · refine zW_ob (z_wordAt hg hcb hw) ?_
      rw [zE_ocss]
      refine zW_f hq1 ?_
      have wk : τ (12 + 3 * w) 2 = g (zwa w) := by have := (hcb.2.2.1 w hw).1; rw [show 3 + 9 + 3 * w = 12 + 3 * w by omega] at this; exact this
      by_cases hk : g (zwa w) = nI 0
      · refine zW_t (wk.trans hk) ?_
        refine zW_jn (fun y : Int32 => y = nI n) ?_ ?_
        · rintro y rfl
          refine zW_bv (mw τ 341 1 (nI (p + 1 + n))) (by rw [zI.1]) ?_
          obtain ⟨υ, u1, u2⟩ := z_fadd (c := 112) (gr := -nI 1) (ca := -nI 1) (wo := nI w) (zXs_mv (q := p + 1 + n) h) h6 (by omega) (fun q => absurd q (by omega))
          refine zW_ob u1 (zW_so (Or.inl ⟨(112, -nI 1, -nI 1, nI w), p + 1 + n, ?_, rfl, u2⟩))
          rw [he]
          unfold zpl
          rw [if_pos ⟨hw, hk⟩]
        · intro k hkk
          rcases hn with ⟨rfl, hn⟩ | ⟨rfl, hn⟩
          · exact zW_t hn (hkk _ rfl)
          · exact zW_f hn (hkk _ rfl)
      · refine zW_f (fun q => hk (wk.symm.trans q)) (bad (p + 1) ?_ rfl)
        rw [he]
        unfold zpl
        rw [if_neg (fun q => hk q.2)]
    · refine zW_ob (z_wordAtN hg hcb (Or.inr (by simp (disch := omega) only [zC]; omega))) ?_
      rw [zE_ocsn]
      refine zW_f hq1 (bad (p + 1) ?_ rfl)
      rw [he]
      unfold zpl
      rw [if_neg (fun q => hw q.1)]
  unfold fX4_readPlain
  rw [h1]
  refine zW_ob (x := zod (zdg l (p + 1) 10)) (z_dg (m := 10) ht hl50 (by omega) (by omega)) ?_
  refine zW_ob (x := zod (zdg l (p + 2) 10)) (by rw [zLT.2.1, zI.1]; exact z_dg (m := 10) ht hl50 (by omega) (by omega)) ?_
  have e0 : zhr g l hs p = (match zdg l (p + 1) 10 with
    | none => .inl (p + 1)
    | some a => match zdg l (p + 2) 10 with
      | none => zpl g p a (p + 2)
      | some b => zpl g p (10 * a + b) (p + 3)) := by
    unfold zhr; rw [if_pos hl]; rfl
  rcases zod_n (l := l) (i := p + 1) (m := 10) rfl (by omega) with ⟨a1, a2⟩ | ⟨a, a1, a2, a3, a4⟩
  · rw [a1]
    rw [a2] at e0
    refine zW_jn (fun y : Int32 => y < 0) (fun y hy => ?_) (fun k hk => zW_if (fun q => hk _ (by decide +kernel)) (fun q => hk _ ?_))
    · refine zW_ob (z_wordAtN hg hcb (Or.inl hy)) ?_
      rw [zE_ocsn]
      exact zW_t rfl (bad _ e0 rfl)
    · rcases zod_n (l := l) (i := p + 2) (m := 10) rfl (by omega) with ⟨b1, b2⟩ | ⟨b, b1, b2, b3, b4⟩
      · exact absurd b1 q
      · rw [b1]
        have neg : ∀ b : Fin 10, (10 : Int32) * -nI 1 + nI b.1 < 0 := by decide +kernel
        exact neg ⟨b, b3⟩
  · rw [a1]
    rw [a2] at e0
    dsimp only at e0
    rcases zod_n (l := l) (i := p + 2) (m := 10) rfl (by omega) with ⟨b1, b2⟩ | ⟨b, b1, b2, b3, b4⟩
    · rw [b1]
      rw [b2] at e0
      exact zW_jn (fun y : Int32 => y = nI a) (fun y hy => by subst hy; exact wd _ _ a 1 (by omega) a4 (Or.inl ⟨rfl, rfl⟩) e0) (fun k hk => zW_t rfl (hk _ rfl))
    · rw [b1]
      rw [b2] at e0
      exact zW_jn (fun y : Int32 => y = nI (10 * a + b)) (fun y hy => by subst hy; exact wd _ _ (10 * a + b) 2 (by omega) a4 (Or.inr ⟨rfl, b4⟩) e0) (fun k hk => zW_f b4 (hk _ (by rw [show (10 : Int32) = nI 10 from rfl]; simp only [zI])))
theorem z_nounX {σ τ : Mem} {hs : List zHt} {p a : Nat} (h : zXs σ τ hs p) (ha : a < 3) (h6 : hs.length ≤ 6) : ∃ x, fX3_nounOf τ 342 (nI a) = some x ∧ (zhN2 hs a = true → ¬ x = (-1 : Int32)) ∧ (zhN2 hs a = false → x = (-1 : Int32)) := by
  refine ⟨τ 347 a, ?_, fun q => ?_, fun q => ?_⟩
  · unfold fX3_nounOf
    simp (disch := omega) only [zLT, z_below, zE, zn01, if_false, zl_f, zI, Nat.reduceAdd]
  · rcases h.2.2.2.1 a ha with ⟨k, k1, -, -, k4⟩ | ⟨k1, -⟩
    · rw [k4]
      show ¬ nI k = -nI 1
      simp (disch := omega) only [zC]
      exact id
    · rw [q] at k1; cases k1
  · rcases h.2.2.2.1 a ha with ⟨k, k1, k2, k3, -⟩ | ⟨-, k2⟩
    · rw [zN2_iff.mpr ⟨k, k1, k2, k3⟩] at q; cases q
    · exact k2
theorem z_rGrouped {g : Nat → Int32} {σ τ : Mem} {l : List Nat} {hs : List zHt} {p : Nat} (c : zXc g σ l) (h : zXs σ τ hs (p + 1)) (h6 : hs.length < 6) (hp : p < l.length) (hl : l.getD p 0 = 110 ∨ l.getD p 0 = 118 ∨ l.getD p 0 = 102) : zW (fX4_readGrouped τ 341 (nI (zso (l.getD p 0))) 1) (zXr g σ l hs p) := by
  obtain ⟨hg, hcb, ht, hl50⟩ := zXc_co c h.2.2.2.2
  have fr := h.2.2.2.2
  have h1 := h.1
  have ht' : ∀ q, zL (mw τ 341 1 (nI q)) 1 l := fun q => zL_cb ht (fun a k x y => by simp (disch := omega) only [zM])
  have hcc : l.getD p 0 = 110 ∨ l.getD p 0 = 118 ∨ l.getD p 0 = 102 ∨ l.getD p 0 = 112 := by omega
  have s0 : (nI (zso (l.getD p 0)) = (0 : Int32)) ↔ l.getD p 0 = 110 := by
    rcases hl with q | q | q <;> rw [q] <;> decide +kernel
  have s1 : (nI (zso (l.getD p 0)) = (1 : Int32)) ↔ l.getD p 0 = 118 := by
    rcases hl with q | q | q <;> rw [q] <;> decide +kernel
  have e0 : zhr g l hs p = (match zdg l (p + 1) 3 with
    | none => .inl (p + 1)
    | some a =>
      if l.getD p 0 = 110 ∧ zhN2 hs a = true then .inl (p + 1)
      else if l.getD p 0 = 118 then .inr ((118, nI a, -nI 1, -nI 1), p + 2)
      else match zdg l (p + 2) 4 with
        | none => .inl (p + 2)
        | some b => .inr ((l.getD p 0, nI a, nI b, -nI 1), p + 3)) := by
    unfold zhr; rw [if_neg (by omega), if_pos hl]; rfl
  unfold fX4_readGrouped
  rw [h1]
  refine zW_ob (x := zod (zdg l (p + 1) 3)) (z_dg (m := 3) ht hl50 (by omega) (by omega)) ?_
  rcases zod_n (l := l) (i := p + 1) (m := 3) rfl (by omega) with ⟨a1, a2⟩ | ⟨a, a1, a2, a3, a4⟩
  · rw [a1]
    rw [a2] at e0
    exact zW_t rfl (zW_so (Or.inr ⟨p + 1, e0, rfl, h1, fr⟩))
  rw [a1]
  rw [a2] at e0
  dsimp only at e0
  refine zW_f a4 ?_
  refine zW_jn (fun _ : Unit => ¬ (l.getD p 0 = 110 ∧ zhN2 hs a = true)) (fun _ hno => ?_) (fun k hk => ?_)
  · rw [if_neg hno] at e0
    refine zW_bv (mw τ 341 1 (nI (p + 2))) (by rw [zLT.2.1, zI.1]) ?_
    have m1 : (mw τ 341 1 (nI (p + 2))) 341 1 = nI (p + 2) := by simp only [zM]
    have hnoun : l.getD p 0 = 110 → ∃ b, b < 3 ∧ nI a = nI b ∧ zhN2 hs b = false := fun q => ⟨a, a3, rfl, by
      cases hz : zhN2 hs a with
      | false => rfl
      | true => exact absurd ⟨q, hz⟩ hno⟩
    refine zW_jn (fun y : Int32 × Mem => (l.getD p 0 = 118 ∧ y.1 = -nI 1 ∧ zXs σ y.2 hs (p + 2)) ∨ (¬ l.getD p 0 = 118 ∧ ∃ b, zdg l (p + 2) 4 = some b ∧ y.1 = nI b ∧ zXs σ y.2 hs (p + 3))) ?_ ?_
    · rintro ⟨y, m⟩ (⟨y1, y2, y3⟩ | ⟨y1, b, y2, y3, y4⟩)
      · dsimp only at y2 y3 ⊢
        rw [if_pos y1] at e0
        obtain ⟨υ, u1, u2⟩ := z_fadd (c := l.getD p 0) (gr := nI a) (ca := y) (wo := -nI 1) y3 h6 hcc hnoun
        refine zW_ob u1 (zW_so (Or.inl ⟨_, _, e0, rfl, ?_⟩))
        rw [y1, y2] at u2
        exact u2
      · dsimp only at y3 y4 ⊢
        rw [if_neg y1, y2] at e0
        obtain ⟨υ, u1, u2⟩ := z_fadd (c := l.getD p 0) (gr := nI a) (ca := y) (wo := -nI 1) y4 h6 hcc hnoun
        refine zW_ob u1 (zW_so (Or.inl ⟨_, _, e0, rfl, ?_⟩))
        rw [y3] at u2
        exact u2
    · intro k hk
      refine zW_if (fun q => hk _ (Or.inl ⟨s1.mp q, rfl, zXs_mv h⟩)) (fun q => ?_)
      have hv : ¬ l.getD p 0 = 118 := fun e => q (s1.mpr e)
      rw [if_neg hv] at e0
      refine zW_ob (x := zod (zdg l (p + 2) 4)) (by rw [m1]; exact z_dg (m := 4) (ht' _) hl50 (by omega) (by omega)) ?_
      rcases zod_n (l := l) (i := p + 2) (m := 4) rfl (by omega) with ⟨b1, b2⟩ | ⟨b, b1, b2, b3, b4⟩
      · rw [b1]
        rw [b2] at e0
        exact zW_t rfl (zW_so (Or.inr ⟨p + 2, e0, rfl, zXs_p (zXs_mv h)⟩))
      · rw [b1]
        refine zW_f b4 (zW_bv (mw (mw τ 341 1 (nI (p + 2))) 341 1 (nI (p + 3))) (by rw [m1, zLT.2.1, zI.1]) (hk _ (Or.inr ⟨hv, b, b2, rfl, zXs_mv (zXs_mv h)⟩)))
  · refine zW_if (fun q => ?_) (fun q => hk _ (fun e => q (s0.mpr e.1)))
    obtain ⟨x, x1, x2, x3⟩ := z_nounX h a3 (by omega)
    refine zW_ob x1 (zW_if (fun q2 => hk _ (fun e => x2 e.2 q2)) (fun q2 => zW_so (Or.inr ⟨p + 1, ?_, rfl, h1, fr⟩)))
    have : zhN2 hs a = true := by
      cases hz : zhN2 hs a with
      | true => rfl
      | false => exact absurd (x3 hz) q2
    rw [if_pos ⟨s0.mp q, this⟩] at e0
    exact e0
