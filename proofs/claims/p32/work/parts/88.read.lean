def zXs (σ τ : Mem) (hs : List zHt) (p : Nat) : Prop := τ 341 1 = nI p ∧ τ 342 0 = nI hs.length ∧ (∀ k, k < hs.length → τ 343 k = nI (zso (hs.getD k zH0).1) ∧ τ 344 k = (hs.getD k zH0).2.1 ∧ τ 345 k = (hs.getD k zH0).2.2.1 ∧ τ 346 k = (hs.getD k zH0).2.2.2)
  ∧ (∀ gr, gr < 3 → (∃ k, k < hs.length ∧ (hs.getD k zH0).1 = 110 ∧ (hs.getD k zH0).2.1 = nI gr ∧ τ 347 gr = nI k) ∨ (zhN2 hs gr = false ∧ τ 347 gr = -nI 1)) ∧ ∀ x c, ¬ (341 ≤ x ∧ x ≤ 347) → τ x c = σ x c
def zod : Option Nat → Int32
  | none => -nI 1
  | some a => nI a
theorem z_dg {τ : Mem} {l : List Nat} {i m : Nat} (h : zL τ 1 l) (hl : l.length ≤ 50) (hi : i < 2 ^ 30) (hm : m ≤ 10) : fX4_digit τ 1 (nI i) (nI m) = some (zod (zdg l i m)) := by
  refine zW_val ?_
  unfold fX4_digit
  refine zW_ob (z_at h zl_c.2.2.2.2.2.2.1 hl (by omega) hi) ?_
  by_cases hc : i < l.length
  · rw [if_pos hc]
    have g := zL_get h hc
    by_cases h48 : 48 ≤ l.getD i 0
    · refine zW_bv (nI (l.getD i 0 - 48)) (by rw [show (48 : Int32) = nI 48 from rfl, zi_sub h48]) ?_
      by_cases hb : l.getD i 0 < 48 + m
      · refine zW_ob (z_below (by omega) (by omega)) (zW_f zn01 (zW_so ?_))
        unfold zdg
        rw [if_pos ⟨hc, h48, hb⟩]
        rfl
      · refine zW_ob (z_belowN (Or.inr (by simp (disch := omega) only [zC]; omega))) (zW_t rfl (zW_so ?_))
        unfold zdg
        rw [if_neg (fun q => hb q.2.2)]
        rfl
    · have neg : ∀ b : Fin 48, nI b.1 - (48 : Int32) < 0 := by decide +kernel
      refine zW_bv _ rfl (zW_ob (z_belowN (Or.inl (neg ⟨l.getD i 0, by omega⟩))) (zW_t rfl (zW_so ?_)))
      unfold zdg
      rw [if_neg (fun q => h48 q.2.1)]
      rfl
  · rw [if_neg hc]
    refine zW_bv _ rfl (zW_ob (z_belowN (Or.inl (by decide +kernel))) (zW_t rfl (zW_so ?_)))
    unfold zdg
    rw [if_neg (fun q => hc q.1)]
    rfl
theorem zod_n {o : Option Nat} {l : List Nat} {i m : Nat} (h : o = zdg l i m) (hm : m ≤ 10) : (zod o = -nI 1 ∧ o = none) ∨ ∃ a, zod o = nI a ∧ o = some a ∧ a < m ∧ ¬ (nI a = -nI 1) := by
  cases o with
  | none => exact Or.inl ⟨rfl, rfl⟩
  | some a =>
    have := (zdg_s h.symm).2.2
    exact Or.inr ⟨a, rfl, rfl, this, by simp (disch := omega) only [zC]; exact id⟩
/-- a hole is added -/
theorem z_fadd {σ τ : Mem} {hs : List zHt} {p c : Nat} {gr ca wo : Int32} (h : zXs σ τ hs p) (h6 : hs.length < 6) (hc : c = 110 ∨ c = 118 ∨ c = 102 ∨ c = 112) (hn : c = 110 → ∃ a, a < 3 ∧ gr = nI a ∧ zhN2 hs a = false) : ∃ υ, fX3_add τ 342 (nI (zso c)) gr ca wo = some υ ∧ zXs σ υ (hs ++ [(c, gr, ca, wo)]) p := by
  obtain ⟨h1, h2, h3, h4, h5⟩ := h
  obtain ⟨-, -, l1, l2, l3, l4, l5⟩ := zl_f
  obtain ⟨m5, hm5⟩ : ∃ m5, m5 = mw (mw (mw (mw τ 343 hs.length (nI (zso c))) 344 hs.length gr) 345 hs.length ca) 346 hs.length wo := ⟨_, rfl⟩
  have a0 : m5 342 0 = nI hs.length := by rw [hm5]; simp (disch := omega) only [zM]; exact h2
  have ao : ∀ x k, ¬ (343 ≤ x ∧ x ≤ 346 ∧ k = hs.length) → m5 x k = τ x k := fun x k q => by rw [hm5]; simp (disch := omega) only [zM]
  have a1 : m5 343 hs.length = nI (zso c) := by rw [hm5]; simp (disch := omega) only [zM]
  have a2 : m5 344 hs.length = gr := by rw [hm5]; simp (disch := omega) only [zM]
  have a3 : m5 345 hs.length = ca := by rw [hm5]; simp (disch := omega) only [zM]
  have a4 : m5 346 hs.length = wo := by rw [hm5]; simp (disch := omega) only [zM]
  have gH : ∀ k, k < hs.length → (hs ++ [(c, gr, ca, wo)]).getD k zH0 = hs.getD k zH0 := fun k hk => by rw [zgH_app, if_pos hk]
  have gL : (hs ++ [(c, gr, ca, wo)]).getD hs.length zH0 = (c, gr, ca, wo) := by rw [zgH_app, if_neg (by omega), Nat.sub_self]; rfl
  have key : zW (fX3_add τ 342 (nI (zso c)) gr ca wo) (fun υ => zXs σ υ (hs ++ [(c, gr, ca, wo)]) p) := by
    unfold fX3_add
    refine zW_t (by rw [h2]; simp (disch := omega) only [zLT, zC]; omega) ?_
    refine zW_gd (by rw [h2]; simp (disch := omega) only [Nat.reduceAdd, l1, zI]) (zW_bv (mw τ 343 hs.length (nI (zso c))) (by rw [h2, zi_ix (by omega)]) ?_)
    have e1 : (mw τ 343 hs.length (nI (zso c))) 342 0 = nI hs.length := by simp (disch := omega) only [zM]; exact h2
    refine zW_gd (by rw [e1]; simp (disch := omega) only [Nat.reduceAdd, l2, zI]) (zW_bv (mw (mw τ 343 hs.length (nI (zso c))) 344 hs.length gr) (by rw [e1, zi_ix (by omega)]) ?_)
    have e2 : (mw (mw τ 343 hs.length (nI (zso c))) 344 hs.length gr) 342 0 = nI hs.length := by simp (disch := omega) only [zM]; exact h2
    refine zW_gd (by rw [e2]; simp (disch := omega) only [Nat.reduceAdd, l3, zI]) (zW_bv (mw (mw (mw τ 343 hs.length (nI (zso c))) 344 hs.length gr) 345 hs.length ca) (by rw [e2, zi_ix (by omega)]) ?_)
    have e3 : (mw (mw (mw τ 343 hs.length (nI (zso c))) 344 hs.length gr) 345 hs.length ca) 342 0 = nI hs.length := by simp (disch := omega) only [zM]; exact h2
    refine zW_gd (by rw [e3]; simp (disch := omega) only [Nat.reduceAdd, l4, zI]) (zW_bv m5 (by rw [e3, zi_ix (by omega), hm5]) ?_)
    -- the end: the number grows
    have fin : ∀ y : Mem, y 342 0 = nI hs.length → (∀ x k, x ≠ 347 → y x k = m5 x k) → (∀ gr', gr' < 3 → (∃ k, k < hs.length + 1 ∧ ((hs ++ [(c, gr, ca, wo)]).getD k zH0).1 = 110 ∧ ((hs ++ [(c, gr, ca, wo)]).getD k zH0).2.1 = nI gr' ∧ y 347 gr' = nI k) ∨ (zhN2 (hs ++ [(c, gr, ca, wo)]) gr' = false ∧ y 347 gr' = -nI 1)) → zXs σ (mw y 342 0 (nI (hs.length + 1))) (hs ++ [(c, gr, ca, wo)]) p := by
      intro y y0 y1 y2
      refine ⟨?_, ?_, fun k hk => ?_, fun gr' hg => ?_, fun x k q => ?_⟩
      · simp (disch := omega) only [zM]
        rw [y1 _ _ (by omega), ao _ _ (by omega)]; exact h1
      · simp only [zM]
        rw [List.length_append, List.length_singleton]
      · simp (disch := omega) only [zM]
        rw [List.length_append, List.length_singleton] at hk
        rw [y1 _ _ (by omega), y1 _ _ (by omega), y1 _ _ (by omega), y1 _ _ (by omega)]
        by_cases hkl : k = hs.length
        · rw [hkl, gL, a1, a2, a3, a4]
          exact ⟨rfl, rfl, rfl, rfl⟩
        · rw [gH k (by omega), ao _ _ (by omega), ao _ _ (by omega), ao _ _ (by omega), ao _ _ (by omega)]
          exact h3 k (by omega)
      · simp (disch := omega) only [zM]
        rw [List.length_append, List.length_singleton]
        exact y2 gr' hg
      · simp (disch := omega) only [zM]
        rw [y1 _ _ (by omega), ao _ _ (by omega)]
        exact h5 x k q
    refine zW_jn (fun y : Mem => y 342 0 = nI hs.length ∧ zXs σ (mw y 342 0 (nI (hs.length + 1))) (hs ++ [(c, gr, ca, wo)]) p) (fun y hy => zW_bv (mw y 342 0 (nI (hs.length + 1))) (by rw [hy.1, zLT.2.1, zI.1]) (zW_so hy.2)) (fun k hk => ?_)
    have old : ∀ gr', gr' < 3 → (decide (c = 110) && decide (gr = nI gr')) = false → (∃ k, k < hs.length + 1 ∧ ((hs ++ [(c, gr, ca, wo)]).getD k zH0).1 = 110 ∧ ((hs ++ [(c, gr, ca, wo)]).getD k zH0).2.1 = nI gr' ∧ m5 347 gr' = nI k) ∨ (zhN2 (hs ++ [(c, gr, ca, wo)]) gr' = false ∧ m5 347 gr' = -nI 1) := by
      intro gr' hg hno
      rw [ao _ _ (by omega)]
      rcases h4 gr' hg with ⟨k, k1, k2, k3, k4⟩ | ⟨k1, k2⟩
      · exact Or.inl ⟨k, by omega, by rw [gH k k1]; exact k2, by rw [gH k k1]; exact k3, k4⟩
      · refine Or.inr ⟨?_, k2⟩
        rw [zN2_app, k1]
        exact hno
    by_cases h110 : c = 110
    · subst h110
      obtain ⟨a, ha, rfl, hna⟩ := hn rfl
      refine zW_t rfl (zW_ob (z_below (b := 3) ha (by omega)) (zW_f zn01 (zW_gd (by simp (disch := omega) only [Nat.reduceAdd, l5, zI]) (zW_bv (mw m5 347 a (nI hs.length)) (by rw [a0, zi_ix (by omega)]) (hk _ ?_)))))
      refine ⟨by simp (disch := omega) only [zM]; exact a0, fin _ (by simp (disch := omega) only [zM]; exact a0) (fun x k q => by simp (disch := omega) only [zM]) (fun gr' hg => ?_)⟩
      by_cases hga : gr' = a
      · subst hga
        refine Or.inl ⟨hs.length, by omega, by rw [gL], by rw [gL], by simp only [zM]⟩
      · simp (disch := omega) only [zM]
        refine old gr' hg ?_
        have : decide ((nI a : Int32) = nI gr') = false := by
          rw [decide_eq_false_iff_not]
          simp (disch := omega) only [zC]
          omega
        rw [this, Bool.and_false]
    · refine zW_f ?_ (hk _ ⟨a0, fin m5 a0 (fun _ _ _ => rfl) (fun gr' hg => old gr' hg ?_)⟩)
      · rcases hc with q | rfl | rfl | rfl
        · exact absurd q h110
        · decide +kernel
        · decide +kernel
        · decide +kernel
      · rw [decide_eq_false h110, Bool.false_and]
  obtain ⟨υ, e, q⟩ := key
  exact ⟨υ, e, q⟩
