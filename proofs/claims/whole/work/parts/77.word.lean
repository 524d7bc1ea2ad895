theorem z_op_word {σ : Mem} {g : Nat → Int32} (h : zIv σ g) (p1 p2 p3 : Int32) : zOp σ (fun σ => fX11_word σ 0 p1 p2 p3) (fun τ => fX12_word τ 383 p1 p2 p3) := by
  have e2 : (-2 : Int32) = -nI 2 := rfl
  rcases zrg p1 (n := 6) (by omega) with ⟨a, ha, rfl⟩ | q1
  rotate_left
  · refine zO_e (r := -nI 2) ?_ ?_ h
    · unfold fX11_word; rw [show (6 : Int32) = nI 6 from rfl, z_belowN q1]; rfl
    · unfold fX12_word; rw [show (5 : Int32) = nI (6 - 1) from rfl, show (0 : Int32) = nI 0 from rfl, z_isInX (by omega) (by omega) q1]; rfl
  rcases zrg p2 (n := 4) (by omega) with ⟨b, hb, rfl⟩ | q2
  rotate_left
  · refine zO_e (r := -nI 2) ?_ ?_ h
    · refine zW_val ?_
      unfold fX11_word
      exact zW_ob (z_below (b := 6) ha (by omega)) (zW_f zn01 (zW_ob (z_belowN (b := 4) q2) (zW_t rfl (zW_so rfl))))
    · refine zW_val ?_
      unfold fX12_word
      exact zW_ob (z_isIn (a := 0) (c := 5) (by omega) (by omega) (by omega)) (zW_f zn01 (zW_ob (z_isInX (n := 4) (by omega) (by omega) q2) (zW_t rfl (zW_so rfl))))
  rcases zrg p3 (n := 3) (by omega) with ⟨c, hc, rfl⟩ | q3
  rotate_left
  · refine zO_e (r := -nI 2) ?_ ?_ h
    · refine zW_val ?_
      unfold fX11_word
      exact zW_ob (z_below (b := 6) ha (by omega)) (zW_f zn01 (zW_ob (z_below (b := 4) hb (by omega)) (zW_f zn01 (zW_ob (z_belowN (b := 3) q3) (zW_t rfl (zW_so rfl))))))
    · refine zW_val ?_
      unfold fX12_word
      exact zW_ob (z_isIn (a := 0) (c := 5) (by omega) (by omega) (by omega)) (zW_f zn01 (zW_ob (z_isIn (a := 0) (c := 3) (by omega) (by omega) (by omega)) (zW_f zn01 (zW_ob (z_isInX (n := 3) (by omega) (by omega) q3) (zW_t rfl (zW_so rfl))))))
  obtain ⟨l, l1, l2, l3, l4⟩ := h.2.2.2.2.2.1
  have hg := h.2.1
  have hcb := h.2.2.1
  have n20 : znW g ≤ 20 := hg.1.2
  -- the class
  have hx : ∀ (Q : Int32 × Mem → Prop), (¬ (1 ≤ l.length ∧ l.length ≤ 6 ∧ zAl l) → Q (-nI 3, mw σ 1 1 (nI 0))) → ((1 ≤ l.length ∧ l.length ≤ 6 ∧ zAl l) → zW (fX0_addWord σ 3 1 (nI a) (nI b) (nI c)) (fun r => Q (r.1, mw r.2 1 1 (nI 0)))) → zW (fX11_word σ 0 (nI a) (nI b) (nI c)) Q := by
    intro Q r1 r2
    unfold fX11_word
    refine zW_ob (z_below (b := 6) ha (by omega)) (zW_f zn01 (zW_ob (z_below (b := 4) hb (by omega)) (zW_f zn01 (zW_ob (z_below (b := 3) hc (by omega)) (zW_f zn01 ?_)))))
    refine zW_jn (fun y : Int32 => (y = nI 0 ∧ ¬ (1 ≤ l.length ∧ l.length ≤ 6 ∧ zAl l)) ∨ (y = nI 1 ∧ (1 ≤ l.length ∧ l.length ≤ 6 ∧ zAl l))) ?_ ?_
    · rintro y hy
      refine zW_jn (fun y : Int32 × Mem => Q (y.1, mw y.2 1 1 (nI 0))) ?_ ?_
      · rintro ⟨r, τ⟩ hr
        exact zW_ob z_clear (zW_so hr)
      · intro k hk
        rcases hy with ⟨rfl, hy⟩ | ⟨rfl, hy⟩
        · exact zW_t rfl (hk _ (r1 hy))
        · refine zW_f zn01 ?_
          obtain ⟨r, er, hr⟩ := r2 hy
          exact zW_ob er (hk _ hr)
    · intro k hk
      refine zW_jn (fun _ : Unit => ¬ (1 ≤ l.length ∧ l.length ≤ 6 ∧ zAl l)) (fun _ hy => hk _ (Or.inl ⟨rfl, hy⟩)) ?_
      intro k2 hk2
      simp only [Nat.zero_add]
      rw [l2.1]
      refine zW_if (fun q => hk2 _ ?_) (fun q => zW_if (fun q' => hk2 _ ?_) (fun q' => ?_))
      · simp (disch := omega) only [zLT, zC] at q
        omega
      · simp (disch := omega) only [zLT, zC] at q'
        omega
      · simp (disch := omega) only [zLT, zC] at q q'
        refine zW_ob (z_allLetters (R := 50) l2 zl_c.2.2.2.2.2.2.1 (by omega) (by omega)) ?_
        by_cases hz : zAl l
        · rw [if_pos hz]
          exact zW_f zn01 (hk _ (Or.inr ⟨rfl, by omega, by omega, hz⟩))
        · rw [if_neg hz]
          exact zW_t rfl (hk2 _ (fun p => hz p.2.2))
  -- the model
  have hm : ∀ (τ : Mem) (Q : Int32 × Mem → Prop), (∀ x c, x ≠ 1 → x ≠ 2 → ¬ (3 ≤ x ∧ x < 172) → τ x c = σ x c) → (¬ (1 ≤ l.length ∧ l.length ≤ 6 ∧ zAl l) → Q (-nI 3, mw τ 383 4 (nI 0))) → ((1 ≤ l.length ∧ l.length ≤ 6 ∧ zAl l) → znW g = 20 → Q (-nI 4, mw τ 383 4 (nI 0)))
      → ((1 ≤ l.length ∧ l.length ≤ 6 ∧ zAl l) → znW g < 20 → ∀ υ, (∀ x c, x ≠ 384 → ¬ (x = 383 ∧ c = 4) → υ x c = τ x c) → υ 383 4 = nI 0 → υ 384 0 = nI (znW g + 1) → υ 384 (zwa (znW g)) = nI a → υ 384 (zwa (znW g) + 1) = nI b → υ 384 (zwa (znW g) + 2) = nI c → υ 384 (zwa (znW g) + 3) = nI l.length → (∀ k, k < l.length → υ 384 (zwa (znW g) + 4 + k) = nI (l.getD k 0)) → (∀ k, k ≠ 0 → ¬ (zwa (znW g) ≤ k ∧ k < zwa (znW g) + 10) → υ 384 k = τ 384 k) → Q (nI (znW g), υ))
      → zW (fX12_word τ 383 (nI a) (nI b) (nI c)) Q := by
    intro τ Q hτ r1 r2 r3
    unfold fX12_word
    refine zW_ob (z_isIn (a := 0) (c := 5) (by omega) (by omega) (by omega)) (zW_f zn01 (zW_ob (z_isIn (a := 0) (c := 3) (by omega) (by omega) (by omega)) (zW_f zn01 (zW_ob (z_isIn (a := 0) (c := 2) (by omega) (by omega) (by omega)) (zW_f zn01 ?_)))))
    have t0 : τ 384 0 = nI (znW g) := by rw [hτ _ _ (by omega) (by omega) (by omega), h.1 0 (by omega)]; exact hg.1.1
    have l4' : ∀ k, k < l.length → τ 386 k = nI (l.getD k 0) := fun k hk => by rw [hτ _ _ (by omega) (by omega) (by omega)]; exact l4 k hk
    refine zW_ob (z_letters (a := 1) (b := 6) l1 (by rw [hτ _ _ (by omega) (by omega) (by omega)]; exact l3) l4' (fun k hk => zL_get l2 hk) (by omega) (by omega)) ?_
    dsimp only
    by_cases hz : 1 ≤ l.length ∧ l.length ≤ 6 ∧ zAl l
    rotate_left
    · rw [if_neg hz]
      exact zW_f (by decide +kernel) (zW_so (r1 hz))
    rw [if_pos hz]
    refine zW_t (by simp (disch := omega) only [zLT, zC]; omega) (zW_gd (by decide +kernel) ?_)
    have m0 : (mw τ 383 4 (nI 0)) (383 + 1) (ix (0 : Int32)) = nI (znW g) := by
      simp (disch := omega) only [zLT, Nat.reduceAdd, zI, zM]; exact t0
    rw [m0]
    refine zW_if (fun q => ?_) (fun q => ?_)
    · simp (disch := omega) only [zLT, zC] at q
      exact zW_so (r2 hz q)
    simp (disch := omega) only [zLT, zC] at q
    have hn : znW g < 20 := by omega
    generalize hnn : znW g = n at *
    refine zW_gd (by decide +kernel) (zW_bv (nI (zwa n)) (by simp only [zLT, zI]) ?_)
    have inb' : ∀ k, k < 500 → inb (nI k) (ln (383 + 1)) = true := fun k hk => by simp (disch := omega) only [Nat.reduceAdd, zl_c, zI]
    refine zW_gd (inb' _ (by unfold zwa; omega)) (zW_bv (mw (mw τ 383 4 (nI 0)) 384 (zwa n) (nI a)) (by rw [zi_ix (by unfold zwa; omega)]) ?_)
    simp only [zLT, zI]
    refine zW_gd (inb' _ (by unfold zwa; omega)) (zW_bv (mw (mw (mw τ 383 4 (nI 0)) 384 (zwa n) (nI a)) 384 (zwa n + 1) (nI b)) (by rw [zi_ix (by unfold zwa; omega)]) ?_)
    refine zW_gd (inb' _ (by unfold zwa; omega)) (zW_bv (mw (mw (mw (mw τ 383 4 (nI 0)) 384 (zwa n) (nI a)) 384 (zwa n + 1) (nI b)) 384 (zwa n + 2) (nI c)) (by rw [zi_ix (by unfold zwa; omega)]) ?_)
    refine zW_gd (inb' _ (by unfold zwa; omega)) (zW_bv (mw (mw (mw (mw (mw τ 383 4 (nI 0)) 384 (zwa n) (nI a)) 384 (zwa n + 1) (nI b)) 384 (zwa n + 2) (nI c)) 384 (zwa n + 3) (nI l.length)) (by rw [zi_ix (by unfold zwa; omega)]) ?_)
    refine zW_lp (fun j s => j ≤ l.length ∧ ∃ υ, s = (nI j, υ) ∧ (∀ x c, x ≠ 384 → ¬ (x = 383 ∧ c = 4) → υ x c = τ x c) ∧ υ 383 4 = nI 0 ∧ υ 384 (zwa n) = nI a ∧ υ 384 (zwa n + 1) = nI b ∧ υ 384 (zwa n + 2) = nI c ∧ υ 384 (zwa n + 3) = nI l.length ∧ (∀ k, k < j → υ 384 (zwa n + 4 + k) = nI (l.getD k 0)) ∧ (∀ k, ¬ (zwa n ≤ k ∧ k < zwa n + 10) → υ 384 k = τ 384 k)) l.length ?_ (by unfold FU; omega)
      ⟨Nat.zero_le _, _, rfl, fun x c p q => by simp (disch := omega) only [zM], by simp (disch := omega) only [zM], by simp (disch := omega) only [zM], by simp (disch := omega) only [zM], by simp (disch := omega) only [zM], by simp (disch := omega) only [zM], fun k hk => absurd hk (by omega), fun k hk => by simp (disch := omega) only [zM]⟩
    rintro j s hj ⟨-, υ, rfl, u1, u2, u3, u4, u5, u6, u7, u8⟩
    unfold sX12_word_117
    dsimp only
    refine zW_if (fun q => ?_) (fun q => ?_)
    · simp (disch := omega) only [zC] at q
      have : j = l.length := by omega
      subst this
      refine zW_oR (zW_gd (by decide +kernel) (zW_gd (by decide +kernel) ?_))
      have u0 : υ 384 0 = nI n := by rw [u8 0 (by unfold zwa; omega), t0]
      have m1 : υ (383 + 1) (ix (0 : Int32)) + (1 : Int32) = nI (n + 1) := by simp only [zLT, Nat.reduceAdd, zI, show ix (nI 0) = 0 from rfl]; rw [u0, zI.1]
      refine zW_bv (mw υ 384 0 (nI (n + 1))) (by rw [m1]; rfl) (zW_gd (by decide +kernel) (zW_so ?_))
      have m2 : (mw υ 384 0 (nI (n + 1))) (383 + 1) (ix (0 : Int32)) - (1 : Int32) = nI n := by
        simp only [zLT, Nat.reduceAdd, show ix (nI 0) = 0 from rfl, zM]
        rw [zi_sub (by omega)]; rfl
      rw [m2]
      have z0 : zwa n ≠ 0 := by unfold zwa; omega
      refine r3 hz hn _ (fun x c p q => by simp (disch := omega) only [zM]; exact u1 x c p q) (by simp (disch := omega) only [zM]; exact u2) (by simp only [zM]) (by simp (disch := omega) only [zM]; exact u3) (by simp (disch := omega) only [zM]; exact u4) (by simp (disch := omega) only [zM]; exact u5) (by simp (disch := omega) only [zM]; exact u6) (fun k hk => by simp (disch := omega) only [zM]; exact u7 k hk) (fun k hk hk2 => by simp (disch := omega) only [zM]; exact u8 k hk2)
    · simp (disch := omega) only [zC] at q
      refine zW_gd (by simp (disch := omega) only [Nat.reduceAdd, zl_c, zI]) (zW_gd (by simp only [zLT, zI]; exact inb' _ (by unfold zwa; omega)) ?_)
      have e : υ 386 j = nI (l.getD j 0) := by rw [u1 _ _ (by omega) (by omega)]; exact l4' j (by omega)
      refine zW_bv (mw υ 384 (zwa n + 4 + j) (nI (l.getD j 0))) (by simp only [zLT, zI, Nat.reduceAdd]; rw [zi_ix (by unfold zwa; omega), zi_ix (by omega), e]) (zW_bv _ rfl (zW_oL ⟨by omega, by omega, mw υ 384 (zwa n + 4 + j) (nI (l.getD j 0)), by simp only [zLT, zI], fun x c p q => by simp (disch := omega) only [zM]; exact u1 x c p q, by simp (disch := omega) only [zM]; exact u2, by simp (disch := omega) only [zM]; exact u3, by simp (disch := omega) only [zM]; exact u4, by simp (disch := omega) only [zM]; exact u5, by simp (disch := omega) only [zM]; exact u6, fun k hk => ?_, fun k hk => by simp (disch := omega) only [zM]; exact u8 k hk⟩))
      by_cases hkj : k = j
      · subst hkj; simp only [zM]
      · simp (disch := omega) only [zM]; exact u7 k (by omega)
  sorry
