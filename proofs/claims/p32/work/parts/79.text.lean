/-- words of letters with one blank between them -/
abbrev zaw (l : List Nat) : Prop := 0 < l.length ∧ ∀ i, i < l.length → (l.getD i 0 = 32 ∧ 0 < i ∧ i + 1 < l.length ∧ l.getD (i - 1) 0 ≠ 32) ∨ zlt (l.getD i 0) = true
theorem zlt32 : zlt 32 = false := rfl
theorem z_allWords {σ : Mem} {i R : Nat} {l : List Nat} (h : zL σ i l) (hr : ln (i + 1) = R) (hl : l.length ≤ R) (hR : R < 1000) : fX5_isAllWords σ i = some (if zaw l then nI 1 else nI 0) := by
  refine zW_val ?_
  unfold fX5_isAllWords
  have at' : ∀ k, k < l.length → fX5_at σ i (nI k) = some (nI (l.getD k 0)) := fun k hk => by rw [z_at h hr hl hR (by omega), if_pos hk]
  refine zW_lp (fun n s => n ≤ l.length ∧ s = nI n ∧ ∀ k, k < n → zlt (l.getD k 0) = true ∨ (l.getD k 0 = 32 ∧ 0 < k ∧ zlt (l.getD (k - 1) 0) = true)) l.length ?_ (by unfold FU; omega) ⟨Nat.zero_le _, rfl, fun k hk => absurd hk (by omega)⟩
  rintro n s hn ⟨-, rfl, s1⟩
  unfold sX5_isAllWords_2
  refine zW_if (fun q => ?_) (fun q => ?_)
  · rw [h.1] at q
    simp (disch := omega) only [zC] at q
    have : n = l.length := by omega
    subst this
    refine zW_oR ?_
    by_cases h0 : l.length = 0
    · refine zW_ob (z_at_neg (by rw [h.1, h0]; decide +kernel)) (zW_ob z_isLetterN (zW_so ?_))
      show nI 0 = _
      rw [if_neg (fun q => by have := q.1; omega)]
    · have g := zL_get h (k := l.length - 1) (by omega)
      refine zW_ob (x := nI (l.getD (l.length - 1) 0)) (by rw [h.1, zLT.2.1, zi_sub (by omega)]; exact at' _ (by omega)) (zW_ob (z_isLetter (by omega)) (zW_so ?_))
      by_cases hz : zlt (l.getD (l.length - 1) 0) = true
      · rw [if_pos hz]
        show nI 1 = _
        rw [if_pos]
        refine ⟨by omega, fun k hk => ?_⟩
        rcases s1 k hk with a | ⟨a, b, c⟩
        · exact Or.inr a
        · refine Or.inl ⟨a, b, ?_, fun q => by rw [q, zlt32] at c; cases c⟩
          by_cases hkl : k = l.length - 1
          · rw [← hkl, a, zlt32] at hz; cases hz
          · omega
      · rw [if_neg hz]
        show nI 0 = _
        rw [if_neg]
        intro q
        rcases q.2 (l.length - 1) (by omega) with ⟨-, -, c, -⟩ | c
        · omega
        · exact hz c
  · rw [h.1] at q
    simp (disch := omega) only [zC] at q
    have hc : n < l.length := by omega
    have g := zL_get h hc
    refine zW_ob (at' n hc) ?_
    refine zW_jn (fun y : Int32 => (y = nI 1 ∧ l.getD n 0 = 32 ∧ 0 < n ∧ zlt (l.getD (n - 1) 0) = true) ∨ (y = nI 0 ∧ ¬ (l.getD n 0 = 32 ∧ 0 < n ∧ zlt (l.getD (n - 1) 0) = true))) ?_ ?_
    · intro y hy
      refine zW_ob (at' n hc) (zW_ob (z_isLetter (by omega)) ?_)
      by_cases hz : zlt (l.getD n 0) = true
      · rw [if_pos hz]
        refine zW_f zn01 (zW_bv _ rfl (zW_oL ⟨hc, by omega, by simp only [zLT, zI], fun k hk => ?_⟩))
        by_cases hkn : k = n
        · rw [hkn]; exact Or.inl hz
        · exact s1 k (by omega)
      · rw [if_neg hz]
        refine zW_t rfl ?_
        rcases hy with ⟨rfl, hy⟩ | ⟨rfl, hy⟩
        · refine zW_f zn01 (zW_bv _ rfl (zW_oL ⟨hc, by omega, by simp only [zLT, zI], fun k hk => ?_⟩))
          by_cases hkn : k = n
          · rw [hkn]; exact Or.inr hy
          · exact s1 k (by omega)
        · refine zW_t rfl (zW_oR (zW_so ?_))
          show nI 0 = _
          rw [if_neg]
          intro q
          rcases q.2 n hc with ⟨a, b, c, d⟩ | c
          · refine hy ⟨a, b, ?_⟩
            rcases q.2 (n - 1) (by omega) with ⟨e, -⟩ | e
            · exact absurd e d
            · exact e
          · exact hz c
    · intro k hk
      refine zW_jn (fun _ : Unit => ¬ (l.getD n 0 = 32 ∧ 0 < n ∧ zlt (l.getD (n - 1) 0) = true)) (fun _ q => hk _ (Or.inr ⟨rfl, q⟩)) (fun k2 hk2 => ?_)
      refine zW_if (fun e => ?_) (fun e => hk2 _ (fun q => ?_))
      · simp (disch := omega) only [zLT, zC] at e
        by_cases h0 : n = 0
        · subst h0
          exact zW_ob (z_at_neg (by decide +kernel)) (zW_ob z_isLetterN (zW_t rfl (hk2 _ (fun q => by omega))))
        · have g2 := zL_get h (k := n - 1) (by omega)
          refine zW_ob (x := nI (l.getD (n - 1) 0)) (by rw [zLT.2.1, zi_sub (by omega)]; exact at' _ (by omega)) (zW_ob (z_isLetter (by omega)) ?_)
          by_cases hz : zlt (l.getD (n - 1) 0) = true
          · rw [if_pos hz]
            exact zW_f zn01 (hk _ (Or.inl ⟨rfl, e, by omega, hz⟩))
          · rw [if_neg hz]
            exact zW_t rfl (hk2 _ (fun q => hz q.2.2))
      · apply e
        simp (disch := omega) only [zLT, zC]
        exact q.1
/-- the model's text -/
theorem z_textM {σ : Mem} {l : List Nat} (h1 : l.length ≤ 50) (h2 : σ 383 4 = nI l.length) (h3 : ∀ k, k < l.length → σ 386 k = nI (l.getD k 0)) (h4 : ∀ k, k < l.length → l.getD k 0 < 256) :
    (¬ zaw l ∧ fX12_text σ 383 = some (-nI 3, mw σ 383 4 (nI 0))) ∨ (zaw l ∧ ∃ υ, fX12_text σ 383 = some (nI (zps l).length, υ) ∧ υ 384 13 = nI l.length ∧ (∀ k, k < l.length → υ 384 (467 + k) = nI (l.getD k 0)) ∧ υ 383 4 = nI 0 ∧ (∀ k, k ≠ 13 → k < 467 → υ 384 k = σ 384 k) ∧ ∀ x c, x ≠ 384 → ¬ (x = 383 ∧ c = 4) → υ x c = σ x c) := by
  have zz : ∀ k, (mw σ 383 4 (nI 0)) 386 k = σ 386 k := fun k => by simp (disch := omega) only [zM]
  have key : zW (fX12_text σ 383) (fun r => (¬ zaw l ∧ r = (-nI 3, mw σ 383 4 (nI 0))) ∨ (zaw l ∧ r.1 = nI (zps l).length ∧ r.2 384 13 = nI l.length ∧ (∀ k, k < l.length → r.2 384 (467 + k) = nI (l.getD k 0)) ∧ r.2 383 4 = nI 0 ∧ (∀ k, k ≠ 13 → k < 467 → r.2 384 k = σ 384 k) ∧ ∀ x c, x ≠ 384 → ¬ (x = 383 ∧ c = 4) → r.2 x c = σ x c)) := by
    unfold fX12_text
    refine zW_bv _ h2 (zW_bv (mw σ 383 4 (nI 0)) rfl ?_)
    refine zW_lp (fun n s => n ≤ l.length ∧ s = (nI n, nI (1 + (zpt l n).1.length)) ∧ ∀ i, i < n → (l.getD i 0 = 32 ∧ 0 < i ∧ i + 1 < l.length ∧ l.getD (i - 1) 0 ≠ 32) ∨ zlt (l.getD i 0) = true) l.length ?_ (by unfold FU; omega) ⟨Nat.zero_le _, rfl, fun k hk => absurd hk (by omega)⟩
    rintro n s hn ⟨-, rfl, s1⟩
    unfold sX12_text_14
    dsimp only
    refine zW_if (fun q => ?_) (fun q => ?_)
    · simp (disch := omega) only [zC] at q
      have : n = l.length := by omega
      subst this
      refine zW_oR (zW_if (fun q0 => zW_so (Or.inl ⟨?_, rfl⟩)) (fun q0 => ?_))
      · simp (disch := omega) only [zLT, zC] at q0
        exact fun q => by have := q.1; omega
      · simp (disch := omega) only [zLT, zC] at q0
        have hz : zaw l := ⟨by omega, s1⟩
        have pl : (zps l).length = 1 + (zpt l l.length).1.length := by
          unfold zps
          rw [if_neg q0, List.length_append, List.length_singleton, Nat.add_comm]
        refine zW_gd (by decide +kernel) (zW_bv (mw (mw σ 383 4 (nI 0)) 384 13 (nI l.length)) rfl ?_)
        refine zW_lp (fun j s => j ≤ l.length ∧ ∃ υ, s = (nI j, υ) ∧ υ 384 13 = nI l.length ∧ (∀ k, k < j → υ 384 (467 + k) = nI (l.getD k 0)) ∧ υ 383 4 = nI 0 ∧ (∀ k, k ≠ 13 → k < 467 → υ 384 k = σ 384 k) ∧ ∀ x c, x ≠ 384 → ¬ (x = 383 ∧ c = 4) → υ x c = σ x c) l.length ?_ (by unfold FU; omega)
          ⟨Nat.zero_le _, _, rfl, by simp (disch := omega) only [zM], fun k hk => absurd hk (by omega), by simp (disch := omega) only [zM], fun k hk hk2 => by simp (disch := omega) only [zM], fun x c p q => by simp (disch := omega) only [zM]⟩
        rintro j s hj ⟨-, υ, rfl, u1, u2, u3, u4, u5⟩
        unfold sX12_text_102
        dsimp only
        refine zW_if (fun q => ?_) (fun q => ?_)
        · simp (disch := omega) only [zC] at q
          have : j = l.length := by omega
          subst this
          exact zW_oR (zW_so (Or.inr ⟨hz, by rw [pl], u1, u2, u3, u4, u5⟩))
        · simp (disch := omega) only [zC] at q
          refine zW_gd (by simp (disch := omega) only [Nat.reduceAdd, zl_c, zI]) (zW_gd (by simp (disch := omega) only [zLT, Nat.reduceAdd, zl_c, zI]) ?_)
          have e : υ 386 j = nI (l.getD j 0) := by rw [u5 _ _ (by omega) (by omega)]; exact h3 j (by omega)
          refine zW_bv (mw υ 384 (467 + j) (nI (l.getD j 0))) (by simp (disch := omega) only [zLT, zI, Nat.reduceAdd, e]) (zW_bv _ rfl (zW_oL ⟨by omega, by omega, mw υ 384 (467 + j) (nI (l.getD j 0)), by simp only [zLT, zI], by simp (disch := omega) only [zM]; exact u1, fun k hk => ?_, by simp (disch := omega) only [zM]; exact u3, fun k hk hk2 => by simp (disch := omega) only [zM]; exact u4 k hk hk2, fun x c p q => by simp (disch := omega) only [zM]; exact u5 x c p q⟩))
          by_cases hkj : k = j
          · subst hkj; simp only [zM]
          · simp (disch := omega) only [zM]; exact u2 k (by omega)
    · simp (disch := omega) only [zC] at q
      have hc : n < l.length := by omega
      have g := h4 n hc
      have e : (mw σ 383 4 (nI 0)) (383 + 3) (ix (nI n)) = nI (l.getD n 0) := by
        rw [zi_ix (by omega)]; exact (zz n).trans (h3 n hc)
      have gd1 : ∀ k, k < 50 → inb (nI k) (ln (383 + 3)) = true := fun k hk => by simp (disch := omega) only [Nat.reduceAdd, zl_c, zI]
      refine zW_gd (gd1 n (by omega)) ?_
      refine zW_jn (fun _ : Unit => ¬ (l.getD n 0 = 32 ∧ 0 < n ∧ n + 1 < l.length ∧ l.getD (n - 1) 0 ≠ 32)) (fun _ hno => ?_) (fun k hk => ?_)
      · refine zW_gd (gd1 n (by omega)) ?_
        rw [e]
        by_cases hz : zlt (l.getD n 0) = true
        · have hz' := hz
          unfold zlt at hz'
          simp only [Bool.and_eq_true, decide_eq_true_eq] at hz'
          have n32 : ¬ l.getD n 0 = 32 := by omega
          refine zW_ob (z_isIn (a := 97) (c := 122) hz'.1 hz'.2 (by omega)) (zW_f zn01 (zW_bv _ rfl (zW_oL ⟨hc, by omega, ?_, fun k hk => ?_⟩)))
          · simp only [zLT, zI]
            rw [zpt, if_neg n32]
          · by_cases hkn : k = n
            · rw [hkn]; exact Or.inr hz
            · exact s1 k (by omega)
        · have hz' := hz
          unfold zlt at hz'
          simp only [Bool.and_eq_true, decide_eq_true_eq] at hz'
          refine zW_ob (z_isInN ?_) (zW_t rfl (zW_oR (zW_so (Or.inl ⟨fun q => ?_, rfl⟩))))
          · simp (disch := omega) only [zLT, zC]; omega
          · rcases q.2 n hc with c | c
            · exact hno c
            · exact hz c
      · refine zW_if (fun q1 => ?_) (fun q1 => hk _ (fun p => q1 ?_))
        rotate_left
        · rw [e, p.1]; rfl
        rw [e] at q1
        simp (disch := omega) only [zLT, zC] at q1
        refine zW_if (fun q2 => hk _ (fun p => ?_)) (fun q2 => ?_)
        · simp (disch := omega) only [zLT, zC] at q2
          omega
        simp (disch := omega) only [zLT, zC] at q2
        refine zW_if (fun q3 => hk _ (fun p => ?_)) (fun q3 => ?_)
        · simp (disch := omega) only [zLT, zI, zC] at q3
          omega
        simp (disch := omega) only [zLT, zI, zC] at q3
        have e' : (mw σ 383 4 (nI 0)) (383 + 3) (ix (nI n - (1 : Int32))) = nI (l.getD (n - 1) 0) := by
          rw [zLT.2.1, zi_sub (by omega), zi_ix (by omega)]; exact (zz _).trans (h3 _ (by omega))
        have g2 := h4 (n - 1) (by omega)
        refine zW_gd (by rw [zLT.2.1, zi_sub (by omega)]; exact gd1 _ (by omega)) (zW_if (fun q4 => hk _ (fun p => ?_)) (fun q4 => ?_))
        · rw [e'] at q4
          simp (disch := omega) only [zLT, zC] at q4
          exact p.2.2.2 q4
        · rw [e'] at q4
          simp (disch := omega) only [zLT, zC] at q4
          refine zW_bv _ rfl (zW_bv _ rfl (zW_oL ⟨hc, by omega, ?_, fun k hk => ?_⟩))
          · simp only [zLT, zI]
            rw [zpt, if_pos q1, List.length_append, List.length_singleton, Nat.add_assoc]
          · by_cases hkn : k = n
            · rw [hkn]; exact Or.inl ⟨q1, by omega, by omega, q4⟩
            · exact s1 k (by omega)
  obtain ⟨⟨r, υ⟩, er, hr⟩ := key
  rcases hr with ⟨a, b⟩ | ⟨a, b, c⟩
  · exact Or.inl ⟨a, by rw [er, b]⟩
  · exact Or.inr ⟨a, υ, by rw [er, show r = _ from b], c⟩
