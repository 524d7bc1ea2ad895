theorem z_op_word {σ : Mem} {g : Nat → Int32} (h : zIv σ g) (p1 p2 p3 : Int32) : zOp σ (fun σ => fX11_word σ 0 p1 p2 p3) (fun τ => fX12_word τ 383 p1 p2 p3) := by
  have e2 : (-2 : Int32) = -nI 2 := rfl
  rcases zrg p1 (n := 6) (by omega) with ⟨a, ha, rfl⟩ | q1
  rotate_left
  · refine zO_e (r := -nI 2) (τ := σ) (υ := σ) ?_ ?_ h
    · unfold fX11_word; rw [show (6 : Int32) = nI 6 from rfl, z_belowN q1]; rfl
    · unfold fX12_word; rw [show (5 : Int32) = nI (6 - 1) from rfl, show (0 : Int32) = nI 0 from rfl, z_isInX (by omega) (by omega) q1]; rfl
  rcases zrg p2 (n := 4) (by omega) with ⟨b, hb, rfl⟩ | q2
  rotate_left
  · refine zO_e (r := -nI 2) (τ := σ) (υ := σ) ?_ ?_ h
    · refine zW_val ?_
      unfold fX11_word
      exact zW_ob (z_below (b := 6) ha (by omega)) (zW_f zn01 (zW_ob (z_belowN (b := 4) q2) (zW_t rfl (zW_so rfl))))
    · refine zW_val ?_
      unfold fX12_word
      exact zW_ob (z_isIn (a := 0) (c := 5) (by omega) (by omega) (by omega)) (zW_f zn01 (zW_ob (z_isInX (n := 4) (by omega) (by omega) q2) (zW_t rfl (zW_so rfl))))
  rcases zrg p3 (n := 3) (by omega) with ⟨c, hc, rfl⟩ | q3
  rotate_left
  · refine zO_e (r := -nI 2) (τ := σ) (υ := σ) ?_ ?_ h
    · refine zW_val ?_
      unfold fX11_word
      exact zW_ob (z_below (b := 6) ha (by omega)) (zW_f zn01 (zW_ob (z_below (b := 4) hb (by omega)) (zW_f zn01 (zW_ob (z_belowN (b := 3) q3) (zW_t rfl (zW_so rfl))))))
    · refine zW_val ?_
      unfold fX12_word
      exact zW_ob (z_isIn (a := 0) (c := 5) (by omega) (by omega) (by omega)) (zW_f zn01 (zW_ob (z_isIn (a := 0) (c := 3) (by omega) (by omega) (by omega)) (zW_f zn01 (zW_ob (z_isInX (n := 3) (by omega) (by omega) q3) (zW_t rfl (zW_so rfl))))))
  obtain ⟨l, l1, l2, l3, l4⟩ := h.2.2.2.2.2.1
  have hg := h.2.1
  have hcb := h.2.2.1
  have n20 : znW g ≤ 20 := hg.1.2
  -- the class
  have hx : ∀ (Q : Int32 × Mem → Prop), (¬ (1 ≤ l.length ∧ l.length ≤ 6 ∧ zAl l) → Q (-nI 3, mw σ 1 1 (nI 0))) → ((1 ≤ l.length ∧ l.length ≤ 6 ∧ zAl l) → zW (fX0_addWord σ 3 1 (nI a) (nI b) (nI c)) (fun r => Q (r.1, mw r.2 1 1 (nI 0)))) → zW (fX11_word σ 0 (nI a) (nI b) (nI c)) Q := by
    intro Q r1 r2
    unfold fX11_word
    refine zW_ob (z_below (b := 6) ha (by omega)) (zW_f zn01 (zW_ob (z_below (b := 4) hb (by omega)) (zW_f zn01 (zW_ob (z_below (b := 3) hc (by omega)) (zW_f zn01 ?_)))))
    refine zW_jn (fun y : Int32 => (y = nI 0 ∧ ¬ (1 ≤ l.length ∧ l.length ≤ 6 ∧ zAl l)) ∨ (y = nI 1 ∧ (1 ≤ l.length ∧ l.length ≤ 6 ∧ zAl l))) ?_ ?_
    · rintro y hy
      refine zW_jn (fun y : Int32 × Mem => Q (y.1, mw y.2 1 1 (nI 0))) ?_ ?_
      · rintro ⟨r, τ⟩ hr
        exact zW_ob z_clear (zW_so hr)
      · intro k hk
        rcases hy with ⟨rfl, hy⟩ | ⟨rfl, hy⟩
        · exact zW_t rfl (hk _ (r1 hy))
        · refine zW_f zn01 ?_
          obtain ⟨r, er, hr⟩ := r2 hy
          exact zW_ob er (hk _ hr)
    · intro k hk
      refine zW_jn (fun _ : Unit => ¬ (1 ≤ l.length ∧ l.length ≤ 6 ∧ zAl l)) (fun _ hy => hk _ (Or.inl ⟨rfl, hy⟩)) ?_
      intro k2 hk2
      simp only [Nat.zero_add]
      rw [l2.1]
      refine zW_if (fun q => hk2 _ ?_) (fun q => zW_if (fun q' => hk2 _ ?_) (fun q' => ?_))
      · simp (disch := omega) only [zLT, zC] at q
        omega
      · simp (disch := omega) only [zLT, zC] at q'
        omega
      · simp (disch := omega) only [zLT, zC] at q q'
        refine zW_ob (z_allLetters (R := 50) l2 zl_c.2.2.2.2.2.2.1 (by omega) (by omega)) ?_
        by_cases hz : zAl l
        · rw [if_pos hz]
          exact zW_f zn01 (hk _ (Or.inr ⟨rfl, by omega, by omega, hz⟩))
        · rw [if_neg hz]
          exact zW_t rfl (hk2 _ (fun p => hz p.2.2))
  -- the model
  have hm : ∀ (τ : Mem) (Q : Int32 × Mem → Prop), (∀ x c, x ≠ 1 → x ≠ 2 → ¬ (3 ≤ x ∧ x < 172) → τ x c = σ x c) → (¬ (1 ≤ l.length ∧ l.length ≤ 6 ∧ zAl l) → Q (-nI 3, mw τ 383 4 (nI 0))) → ((1 ≤ l.length ∧ l.length ≤ 6 ∧ zAl l) → znW g = 20 → Q (-nI 4, mw τ 383 4 (nI 0)))
      → ((1 ≤ l.length ∧ l.length ≤ 6 ∧ zAl l) → znW g < 20 → ∀ υ, (∀ x c, x ≠ 384 → ¬ (x = 383 ∧ c = 4) → υ x c = τ x c) → υ 383 4 = nI 0 → υ 384 0 = nI (znW g + 1) → υ 384 (zwa (znW g)) = nI a → υ 384 (zwa (znW g) + 1) = nI b → υ 384 (zwa (znW g) + 2) = nI c → υ 384 (zwa (znW g) + 3) = nI l.length → (∀ k, k < l.length → υ 384 (zwa (znW g) + 4 + k) = nI (l.getD k 0)) → (∀ k, k ≠ 0 → ¬ (zwa (znW g) ≤ k ∧ k < zwa (znW g) + 10) → υ 384 k = τ 384 k) → Q (nI (znW g), υ))
      → zW (fX12_word τ 383 (nI a) (nI b) (nI c)) Q := by
    intro τ Q hτ r1 r2 r3
    unfold fX12_word
    refine zW_ob (z_isIn (a := 0) (c := 5) (by omega) (by omega) (by omega)) (zW_f zn01 (zW_ob (z_isIn (a := 0) (c := 3) (by omega) (by omega) (by omega)) (zW_f zn01 (zW_ob (z_isIn (a := 0) (c := 2) (by omega) (by omega) (by omega)) (zW_f zn01 ?_)))))
    have t0 : τ 384 0 = nI (znW g) := by rw [hτ _ _ (by omega) (by omega) (by omega), h.1 0 (by omega)]; exact hg.1.1
    have l4' : ∀ k, k < l.length → τ 386 k = nI (l.getD k 0) := fun k hk => by rw [hτ _ _ (by omega) (by omega) (by omega)]; exact l4 k hk
    refine zW_ob (z_letters (a := 1) (b := 6) l1 (by rw [hτ _ _ (by omega) (by omega) (by omega)]; exact l3) l4' (fun k hk => zL_get l2 hk) (by omega) (by omega)) ?_
    dsimp only
    by_cases hz : 1 ≤ l.length ∧ l.length ≤ 6 ∧ zAl l
    rotate_left
    · rw [if_neg hz]
      exact zW_f (by decide +kernel) (zW_so (r1 hz))
    rw [if_pos hz]
    refine zW_t (by simp (disch := omega) only [zLT, zC]; omega) (zW_gd (by decide +kernel) ?_)
    have m0 : (mw τ 383 4 (nI 0)) (383 + 1) (ix (0 : Int32)) = nI (znW g) := by
      simp (disch := omega) only [zLT, Nat.reduceAdd, zI, zM]; exact t0
    refine zW_if (fun q => ?_) (fun q => ?_)
    · rw [m0] at q
      simp (disch := omega) only [zLT, zC] at q
      exact zW_so (r2 hz q)
    rw [m0] at q
    simp (disch := omega) only [zLT, zC] at q
    have hn : znW g < 20 := by omega
    generalize hnn : znW g = n at m0 r3 hn t0
    refine zW_gd (by decide +kernel) (zW_bv (nI (zwa n)) (by rw [m0]; simp only [zLT, zI]) ?_)
    have inb' : ∀ k, k < 500 → inb (nI k) (ln (383 + 1)) = true := fun k hk => by simp (disch := omega) only [Nat.reduceAdd, zl_c, zI]
    refine zW_gd (inb' _ (by unfold zwa; omega)) (zW_bv (mw (mw τ 383 4 (nI 0)) 384 (zwa n) (nI a)) (by rw [zi_ix (by unfold zwa; omega)]) ?_)
    simp only [zLT, zI]
    refine zW_gd (inb' _ (by unfold zwa; omega)) (zW_bv (mw (mw (mw τ 383 4 (nI 0)) 384 (zwa n) (nI a)) 384 (zwa n + 1) (nI b)) (by rw [zi_ix (by unfold zwa; omega)]) ?_)
    refine zW_gd (inb' _ (by unfold zwa; omega)) (zW_bv (mw (mw (mw (mw τ 383 4 (nI 0)) 384 (zwa n) (nI a)) 384 (zwa n + 1) (nI b)) 384 (zwa n + 2) (nI c)) (by rw [zi_ix (by unfold zwa; omega)]) ?_)
    refine zW_gd (inb' _ (by unfold zwa; omega)) (zW_bv (mw (mw (mw (mw (mw τ 383 4 (nI 0)) 384 (zwa n) (nI a)) 384 (zwa n + 1) (nI b)) 384 (zwa n + 2) (nI c)) 384 (zwa n + 3) (nI l.length)) (by rw [zi_ix (by unfold zwa; omega)]) ?_)
    refine zW_lp (fun j s => j ≤ l.length ∧ ∃ υ, s = (nI j, υ) ∧ (∀ x c, x ≠ 384 → ¬ (x = 383 ∧ c = 4) → υ x c = τ x c) ∧ υ 383 4 = nI 0 ∧ υ 384 (zwa n) = nI a ∧ υ 384 (zwa n + 1) = nI b ∧ υ 384 (zwa n + 2) = nI c ∧ υ 384 (zwa n + 3) = nI l.length ∧ (∀ k, k < j → υ 384 (zwa n + 4 + k) = nI (l.getD k 0)) ∧ (∀ k, ¬ (zwa n ≤ k ∧ k < zwa n + 10) → υ 384 k = τ 384 k)) l.length ?_ (by unfold FU; omega)
      ⟨Nat.zero_le _, _, rfl, fun x c p q => by simp (disch := omega) only [zM], by simp (disch := omega) only [zM], by simp (disch := omega) only [zM], by simp (disch := omega) only [zM], by simp (disch := omega) only [zM], by simp (disch := omega) only [zM], fun k hk => absurd hk (by omega), fun k hk => by simp (disch := omega) only [zM]⟩
    rintro j s hj ⟨-, υ, rfl, u1, u2, u3, u4, u5, u6, u7, u8⟩
    unfold sX12_word_117
    dsimp only
    refine zW_if (fun q => ?_) (fun q => ?_)
    · simp (disch := omega) only [zC] at q
      have : j = l.length := by omega
      subst this
      refine zW_oR (zW_gd (by decide +kernel) (zW_gd (by decide +kernel) ?_))
      have u0 : υ 384 0 = nI n := by rw [u8 0 (by unfold zwa; omega), t0]
      have m1 : υ (383 + 1) (ix (0 : Int32)) + (1 : Int32) = nI (n + 1) := by simp only [zLT, Nat.reduceAdd, zI, show ix (nI 0) = 0 from rfl]; rw [u0, zI.1]
      refine zW_bv (mw υ 384 0 (nI (n + 1))) (by rw [m1]; rfl) (zW_gd (by decide +kernel) (zW_so ?_))
      have m2 : (mw υ 384 0 (nI (n + 1))) (383 + 1) (ix (0 : Int32)) - (1 : Int32) = nI n := by
        simp only [zLT, Nat.reduceAdd, show ix (nI 0) = 0 from rfl, zM]
        rw [zi_sub (by omega)]; rfl
      rw [m2]
      have z0 : zwa n ≠ 0 := by unfold zwa; omega
      refine r3 hz hn _ (fun x c p q => by simp (disch := omega) only [zM]; exact u1 x c p q) (by simp (disch := omega) only [zM]; exact u2) (by simp only [zM]) (by simp (disch := omega) only [zM]; exact u3) (by simp (disch := omega) only [zM]; exact u4) (by simp (disch := omega) only [zM]; exact u5) (by simp (disch := omega) only [zM]; exact u6) (fun k hk => by simp (disch := omega) only [zM]; exact u7 k hk) (fun k hk hk2 => by simp (disch := omega) only [zM]; exact u8 k hk2)
    · simp (disch := omega) only [zC] at q
      refine zW_gd (by simp (disch := omega) only [Nat.reduceAdd, zl_c, zI]) (zW_gd (by simp only [zLT, zI]; exact inb' _ (by unfold zwa; omega)) ?_)
      have e : υ 386 j = nI (l.getD j 0) := by rw [u1 _ _ (by omega) (by omega)]; exact l4' j (by omega)
      refine zW_bv (mw υ 384 (zwa n + 4 + j) (nI (l.getD j 0))) (by simp only [zLT, zI, Nat.reduceAdd]; rw [zi_ix (by unfold zwa; omega), zi_ix (by omega), e]) (zW_bv _ rfl (zW_oL ⟨by omega, by omega, mw υ 384 (zwa n + 4 + j) (nI (l.getD j 0)), by simp only [zLT, zI], fun x c p q => by simp (disch := omega) only [zM]; exact u1 x c p q, by simp (disch := omega) only [zM]; exact u2, by simp (disch := omega) only [zM]; exact u3, by simp (disch := omega) only [zM]; exact u4, by simp (disch := omega) only [zM]; exact u5, by simp (disch := omega) only [zM]; exact u6, fun k hk => ?_, fun k hk => by simp (disch := omega) only [zM]; exact u8 k hk⟩))
      by_cases hkj : k = j
      · subst hkj; simp only [zM]
      · simp (disch := omega) only [zM]; exact u7 k (by omega)
  refine zO_op ?_
  refine hx _ (fun hz => ?_) (fun hz => ?_)
  · exact hm _ _ (fun x c p q r => by simp (disch := omega) only [zM]) (fun _ => ⟨rfl, g, zIv_tp h (fun x c p q r s => by simp (disch := omega) only [zM]) (zTP_e (by simp (disch := omega) only [zM]) (by simp only [zM]))⟩) (fun q => absurd q hz) (fun q => absurd q hz)
  unfold fX0_addWord
  have s3 : σ 3 1 = nI (znW g) := hcb.1.1.trans hg.1.1
  refine zW_if (fun q => ?_) (fun q => ?_)
  rotate_left
  · rw [s3] at q
    simp (disch := omega) only [Nat.reduceAdd, zl_c, zC] at q
    refine zW_so (hm _ _ (fun x c p q r => by simp (disch := omega) only [zM]) (fun q => absurd hz q) (fun _ _ => ⟨rfl, g, zIv_tp h (fun x c p q r s => by simp (disch := omega) only [zM]) (zTP_e (by simp (disch := omega) only [zM]) (by simp only [zM]))⟩) (fun _ hn => absurd hn (by omega)))
  rw [s3] at q
  simp (disch := omega) only [Nat.reduceAdd, zl_c, zC] at q
  rw [s3]
  generalize hnn : znW g = n at q s3 hm
  refine zW_gd (by simp (disch := omega) only [Nat.reduceAdd, zl_c, zI]) ?_
  rw [zi_ix (by omega), show 3 + 1 + 8 + 3 * n = 12 + 3 * n by omega]
  obtain ⟨τ, t1, t2, t3⟩ := z_become (i := 12 + 3 * n + 1) (j := 1) (R := 6) (S := 50) (by omega) (zl_b.1 _ (by omega) (by omega) (by omega)) zl_c.2.2.2.2.2.2.1 (by omega) (by omega) l2 l1 hz.2.1
  refine zW_ob (x := mw (mw (mw τ (12 + 3 * n) 2 (nI a)) (12 + 3 * n) 3 (nI b)) (12 + 3 * n) 4 (nI c)) (by unfold fX10_begin; rw [t1]; rfl) ?_
  have e3 : (mw (mw (mw τ (12 + 3 * n) 2 (nI a)) (12 + 3 * n) 3 (nI b)) (12 + 3 * n) 4 (nI c)) 3 1 = nI n := by
    simp (disch := omega) only [zM]
    rw [t3 _ _ (by omega) (by omega), s3]
  refine zW_bv (mw (mw (mw (mw τ (12 + 3 * n) 2 (nI a)) (12 + 3 * n) 3 (nI b)) (12 + 3 * n) 4 (nI c)) 3 1 (nI (n + 1))) (by rw [e3, zLT.2.1, zI.1]) (zW_so ?_)
  have e4 : (mw (mw (mw (mw τ (12 + 3 * n) 2 (nI a)) (12 + 3 * n) 3 (nI b)) (12 + 3 * n) 4 (nI c)) 3 1 (nI (n + 1))) 3 1 - (1 : Int32) = nI n := by
    simp only [zM]
    rw [zLT.2.1, zi_sub (by omega)]; rfl
  dsimp only
  rw [e4]
  have ω0 : ∀ x k, x ≠ 1 → ¬ (x = 3 ∧ k = 1) → ¬ (12 + 3 * n ≤ x ∧ x < 15 + 3 * n) → (mw (mw (mw (mw (mw τ (12 + 3 * n) 2 (nI a)) (12 + 3 * n) 3 (nI b)) (12 + 3 * n) 4 (nI c)) 3 1 (nI (n + 1))) 1 1 (nI 0)) x k = σ x k := fun x k p1 p2 p3 => by
    simp (disch := omega) only [zM]
    exact t3 _ _ (by omega) (by omega)
  have ω1 : zL (mw (mw (mw (mw (mw τ (12 + 3 * n) 2 (nI a)) (12 + 3 * n) 3 (nI b)) (12 + 3 * n) 4 (nI c)) 3 1 (nI (n + 1))) 1 1 (nI 0)) (12 + 3 * n + 1) l := zL_cb t2 (fun x k p q => by simp (disch := omega) only [zM])
  have ω2 : (mw (mw (mw (mw (mw τ (12 + 3 * n) 2 (nI a)) (12 + 3 * n) 3 (nI b)) (12 + 3 * n) 4 (nI c)) 3 1 (nI (n + 1))) 1 1 (nI 0)) (12 + 3 * n) 2 = nI a := by simp (disch := omega) only [zM]
  have ω3 : (mw (mw (mw (mw (mw τ (12 + 3 * n) 2 (nI a)) (12 + 3 * n) 3 (nI b)) (12 + 3 * n) 4 (nI c)) 3 1 (nI (n + 1))) 1 1 (nI 0)) (12 + 3 * n) 3 = nI b := by simp (disch := omega) only [zM]
  have ω4 : (mw (mw (mw (mw (mw τ (12 + 3 * n) 2 (nI a)) (12 + 3 * n) 3 (nI b)) (12 + 3 * n) 4 (nI c)) 3 1 (nI (n + 1))) 1 1 (nI 0)) (12 + 3 * n) 4 = nI c := by simp (disch := omega) only [zM]
  have ω5 : (mw (mw (mw (mw (mw τ (12 + 3 * n) 2 (nI a)) (12 + 3 * n) 3 (nI b)) (12 + 3 * n) 4 (nI c)) 3 1 (nI (n + 1))) 1 1 (nI 0)) 3 1 = nI (n + 1) := by simp (disch := omega) only [zM]
  have ω6 : (mw (mw (mw (mw (mw τ (12 + 3 * n) 2 (nI a)) (12 + 3 * n) 3 (nI b)) (12 + 3 * n) 4 (nI c)) 3 1 (nI (n + 1))) 1 1 (nI 0)) 1 1 = nI 0 := by simp only [zM]
  have ω7 : (mw (mw (mw (mw (mw τ (12 + 3 * n) 2 (nI a)) (12 + 3 * n) 3 (nI b)) (12 + 3 * n) 4 (nI c)) 3 1 (nI (n + 1))) 1 1 (nI 0)) (12 + 3 * n) 0 = nI n := by
    simp (disch := omega) only [zM]
    rw [t3 _ _ (by omega) (by omega)]
    exact h.2.2.2.1.1 n q
  generalize mw (mw (mw (mw (mw τ (12 + 3 * n) 2 (nI a)) (12 + 3 * n) 3 (nI b)) (12 + 3 * n) 4 (nI c)) 3 1 (nI (n + 1))) 1 1 (nI 0) = ω at *
  refine hm ω _ (fun x c p1 p2 p3 => ω0 x c p1 (by omega) (by omega)) (fun q => absurd hz q) (fun _ q => absurd q (by omega)) ?_
  intro _ _ υ u1 u2 u3 u4 u5 u6 u7 u8 u9
  refine ⟨rfl, fun k => if k < 517 then υ 384 k else g k, ?_⟩
  have gi : ∀ k, k < 517 → (fun k => if k < 517 then υ 384 k else g k) k = υ 384 k := fun k hk => if_pos hk
  have go : ∀ k, k ≠ 0 → ¬ (zwa n ≤ k ∧ k < zwa n + 10) → (fun k => if k < 517 then υ 384 k else g k) k = g k := fun k hk hk2 => by
    by_cases h5 : k < 517
    · rw [gi k h5, u9 k hk hk2, ω0 _ _ (by omega) (by omega) (by omega)]
      exact h.1 k h5
    · exact if_neg h5
  generalize (fun k => if k < 517 then υ 384 k else g k) = g' at *
  have z5 : zwa n + 10 < 517 := by unfold zwa; omega
  have a0 : g' 0 = nI (n + 1) := by rw [gi _ (by omega), u3]
  have a1 : g' (zwa n) = nI a := by rw [gi _ (by omega), u4]
  have a2 : g' (zwa n + 1) = nI b := by rw [gi _ (by omega), u5]
  have a3 : g' (zwa n + 2) = nI c := by rw [gi _ (by omega), u6]
  have a4 : g' (zwa n + 3) = nI l.length := by rw [gi _ (by omega), u7]
  have a5 : ∀ k, k < l.length → g' (zwa n + 4 + k) = nI (l.getD k 0) := fun k hk => by rw [gi _ (by omega), u8 k hk]
  have hwd : zWd g' n := by
    unfold zWd
    rw [a1, a2, a3, a4, zi_ix (by omega)]
    refine ⟨zNI_of (by omega) (by omega), zNI_of (by omega) (by omega), zNI_of (by omega) (by omega), zNI_of hz.2.1 (by omega), hz.1, fun k hk => ?_⟩
    rw [a5 k hk]
    have := hz.2.2 k hk
    unfold zlt at this
    simp only [Bool.and_eq_true, decide_eq_true_eq] at this
    unfold zlet
    rw [zi_ix (by omega)]
    exact ⟨rfl, this⟩
  have hst : zst g' n = l := by
    unfold zst
    rw [a4, zi_ix (by omega)]
    refine List.ext_getElem (by rw [ztx_len]) (fun k k1 k2 => ?_)
    have := ztx_get (g := g') (a := zwa n + 4) k2
    rw [a5 k k2] at this
    have hb := zL_get l2 k2
    rw [zi_ix (by omega)] at this
    simpa [List.getD_eq_getElem?_getD, List.getElem?_eq_getElem k1, List.getElem?_eq_getElem k2] using this
  have e1 : ∀ x k, x ≠ 1 → ¬ (x = 3 ∧ k = 1) → ¬ (12 + 3 * n ≤ x ∧ x < 15 + 3 * n) → x ≠ 384 → ¬ (x = 383 ∧ k = 4) → υ x k = σ x k := fun x k p1 p2 p3 p4 p5 => by rw [u1 x k p4 p5, ω0 x k p1 p2 p3]
  show zIv υ g'
  refine zIv_bk h (fun x c p => e1 x c (by omega) (by omega) (by omega) (by omega) (by omega)) (fun k hk => (gi k hk).symm) (zBG_wd hg hnn q a0 go hwd) ?_ ?_ (zTP_e (by rw [u1 _ _ (by omega) (by omega)]; exact ω6) u2)
  · refine zCB_wd hg hnn q a0 go hcb (by rw [u1 _ _ (by omega) (by omega)]; exact ω5) ?_ ?_ (fun x k p1 p2 p3 p4 => e1 x k (by omega) p3 p4 (by omega) (by omega))
    · unfold zWB
      rw [a1, a2, a3, hst, u1 _ _ (by omega) (by omega), u1 _ 3 (by omega) (by omega), u1 _ 4 (by omega) (by omega)]
      exact ⟨ω2, ω3, ω4, zL_cb ω1 (fun x k p q => u1 _ _ (by omega) (by omega))⟩
    · rw [u1 _ _ (by omega) (by omega), show 13 + 3 * n = 12 + 3 * n + 1 by omega, ω1.1]
      exact zNI_of hz.2.1 (by omega)
  · refine ⟨fun w hw => ?_, ?_, ?_, ?_⟩
    · by_cases hwn : w = n
      · rw [hwn, u1 _ _ (by omega) (by omega)]; exact ω7
      · rw [e1 _ _ (by omega) (by omega) (by omega) (by omega) (by omega)]; exact h.2.2.2.1.1 w hw
    · exact zL_cb h.2.2.2.1.2.1 (fun a k p q => e1 _ _ (by omega) (by omega) (by omega) (by omega) (by omega))
    · exact zL_cb h.2.2.2.1.2.2.1 (fun a k p q => e1 _ _ (by omega) (by omega) (by omega) (by omega) (by omega))
    · exact zL_cb h.2.2.2.1.2.2.2 (fun a k p q => e1 _ _ (by omega) (by omega) (by omega) (by omega) (by omega))
