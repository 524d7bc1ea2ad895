/-- what is on the tape, both sides -/
def zTq (σ : Mem) (l : List Nat) : Prop := l.length ≤ 50 ∧ zL σ 1 l ∧ σ 383 4 = nI l.length ∧ ∀ k, k < l.length → σ 386 k = nI (l.getD k 0)
abbrev zAl (l : List Nat) : Prop := ∀ k, k < l.length → zlt (l.getD k 0) = true
theorem z_letters {σ : Mem} {l : List Nat} {a b : Nat} (h1 : l.length ≤ 50) (h2 : σ 383 4 = nI l.length) (h3 : ∀ k, k < l.length → σ 386 k = nI (l.getD k 0)) (h4 : ∀ k, k < l.length → l.getD k 0 < 256) (ha : a < 100) (hb : b < 100) :
    fX12_letters σ 383 (nI a) (nI b) = some (if a ≤ l.length ∧ l.length ≤ b ∧ zAl l then nI l.length else -nI 1, mw σ 383 4 (nI 0)) := by
  refine zW_val ?_
  unfold fX12_letters
  refine zW_bv _ h2 (zW_bv (mw σ 383 4 (nI 0)) rfl ?_)
  by_cases hc : a ≤ l.length ∧ l.length ≤ b
  · refine zW_ob (z_isIn hc.1 hc.2 (by omega)) (zW_f zn01 ?_)
    refine zW_lp (fun n s => n ≤ l.length ∧ s = nI n ∧ ∀ k, k < n → zlt (l.getD k 0) = true) l.length ?_ (by unfold FU; omega) ⟨Nat.zero_le _, rfl, fun k hk => absurd hk (by omega)⟩
    rintro n s hn ⟨-, rfl, s1⟩
    unfold sX12_letters_24
    refine zW_if (fun q => ?_) (fun q => ?_)
    · simp (disch := omega) only [zC] at q
      have : n = l.length := by omega
      subst this
      refine zW_oR (zW_so ?_)
      rw [if_pos ⟨hc.1, hc.2, s1⟩]
      rfl
    · simp (disch := omega) only [zC] at q
      have g := h4 n (by omega)
      refine zW_gd (by simp (disch := omega) only [zI, Nat.reduceAdd, zl_c]) ?_
      have e : (mw σ 383 4 (nI 0)) (383 + 3) (ix (nI n)) = nI (l.getD n 0) := by
        simp (disch := omega) only [zI, Nat.reduceAdd, zM]
        exact h3 n (by omega)
      rw [e]
      by_cases hz : zlt (l.getD n 0) = true
      · have hz' := hz
        unfold zlt at hz'
        simp only [Bool.and_eq_true, decide_eq_true_eq] at hz'
        refine zW_ob (by simp only [zLT]; exact z_isIn hz'.1 hz'.2 (by omega)) (zW_f zn01 (zW_bv _ rfl (zW_oL ⟨by omega, by omega, by simp only [zLT, zI], fun k hk => ?_⟩)))
        by_cases hkn : k = n
        · rw [hkn]; exact hz
        · exact s1 k (by omega)
      · have hz' := hz
        unfold zlt at hz'
        simp only [Bool.and_eq_true, decide_eq_true_eq] at hz'
        refine zW_ob (z_isInN ?_) (zW_t rfl (zW_oR (zW_so ?_)))
        · simp (disch := omega) only [zLT, zC]; omega
        · rw [if_neg (fun q2 => hz (q2.2.2 n (by omega)))]
          rfl
  · refine zW_ob (z_isInN ?_) (zW_t rfl (zW_so ?_))
    · simp (disch := omega) only [zC]; omega
    · rw [if_neg (fun q => hc ⟨q.1, q.2.1⟩)]
      rfl
theorem zTq_b {σ : Mem} {l : List Nat} (h : zTq σ l) : ∀ k, k < l.length → l.getD k 0 < 256 := fun k hk => zL_get h.2.1 hk
/-- the tape is empty -/
theorem zTP_e {σ : Mem} (h1 : σ 1 1 = nI 0) (h2 : σ 383 4 = nI 0) : zTP σ := ⟨[], by simp, ⟨h1, fun k hk => absurd hk (by simp), by simp⟩, h2, fun k hk => absurd hk (by simp)⟩
theorem zDk_cg {g g' : Nat → Int32} (h : ∀ k, 2 ≤ k → k < 13 → g' k = g k) (hF : znF g ≤ znF g') (hf : ∀ f, f < znF g → ∀ k, k < 25 → g' (zfa f + k) = g (zfa f + k)) (hW : znW g ≤ znW g') (hw : ∀ w, w < znW g → g' (zwa w) = g (zwa w)) (hg : zBG g) : zDk g' := by
  obtain ⟨d1, d2, d3, d4, d5⟩ := hg.2.2.2.2.2.2
  refine ⟨?_, by rw [h 3 (by omega) (by omega)]; exact d2, by rw [h 4 (by omega) (by omega)]; exact d3, by rw [h 5 (by omega) (by omega)]; exact d4, by rw [h 6 (by omega) (by omega)]; exact d5⟩
  rw [h 2 (by omega) (by omega)]
  refine d1.imp id ?_
  rintro ⟨f, f1, f2, f3⟩
  have e0 : g' (zfa f) = g (zfa f) := hf f f1 0 (by omega)
  have en : znH g' f = znH g f := by show ix (g' (zfa f)) = _; rw [e0]
  have h6 : znH g f ≤ 6 := (hg.2.2.2.2.1 f f1).1.2
  refine ⟨f, Nat.lt_of_lt_of_le f1 hF, f2, fun i hi => ?_⟩
  rw [en] at hi
  rw [h (7 + i) (by omega) (by omega)]
  refine (f3 i hi).imp id ?_
  rintro ⟨w, w1, w2, w3⟩
  exact ⟨w, Nat.lt_of_lt_of_le w1 hW, by rw [zcan_cg (hf f f1) (by omega) (hw w w1)]; exact w2, w3⟩
theorem zDB_cg {σ : Mem} {i : Nat} {g g' : Nat → Int32} (h : ∀ k, 2 ≤ k → k < 13 → g' k = g k) (hf : ∀ f, f < znF g → g' (zfa f) = g (zfa f)) (hF5 : znF g' ≤ 5) (hg : zBG g) (q : zDB σ i g) : zDB σ i g' := by
  obtain ⟨q1, q2, q3, q4⟩ := q
  have eb : zbt g' = zbt g := by unfold zbt; rw [h 4 (by omega) (by omega), h 5 (by omega) (by omega), h 6 (by omega) (by omega)]
  refine ⟨by rw [h 2 (by omega) (by omega)]; exact q1, by rw [h 3 (by omega) (by omega)]; exact q2, by rw [eb]; exact q3, fun f hf' e k hk => ?_⟩
  rw [h 2 (by omega) (by omega)] at e
  have n5 : znF g ≤ 5 := hg.2.1.2
  have hfg : f < znF g := by
    rcases hg.2.2.2.2.2.2.1 with d | ⟨f', f1, f2, -⟩
    · rw [d] at e
      simp (disch := omega) only [zC] at e
    · rw [f2] at e
      simp (disch := omega) only [zC] at e
      omega
  have en : znH g' f = znH g f := by show ix (g' (zfa f)) = _; rw [hf f hfg]
  have h6 : znH g f ≤ 6 := (hg.2.2.2.2.1 f hfg).1.2
  rw [en] at hk
  rw [h (7 + k) (by omega) (by omega)]
  exact q4 f hfg e k hk
theorem ztt_cg {g g' : Nat → Int32} (h : g' 13 = g 13) (h2 : ∀ k, g' (467 + k) = g (467 + k)) : ztt g' = ztt g := by
  unfold ztt
  rw [h]
  exact ztx_cg (fun k _ => h2 k)
/-- one word more -/
theorem zBG_wd {g g' : Nat → Int32} {n : Nat} (hg : zBG g) (en : znW g = n) (hn : n < 20) (h0 : g' 0 = nI (n + 1)) (o : ∀ k, k ≠ 0 → ¬ (zwa n ≤ k ∧ k < zwa n + 10) → g' k = g k) (hw : zWd g' n) : zBG g' := by
  have nW : znW g' = n + 1 := by show ix (g' 0) = _; rw [h0, zi_ix (by omega)]
  have nF : znF g' = znF g := by show ix (g' 1) = ix (g 1); rw [o 1 (by omega) (by unfold zwa; omega)]
  have ow : ∀ w, w < n → ∀ k, k < 10 → g' (zwa w + k) = g (zwa w + k) := fun w hw k hk => o _ (by unfold zwa; omega) (by unfold zwa; omega)
  have of : ∀ f k, g' (zfa f + k) = g (zfa f + k) := fun f k => o _ (by unfold zfa; omega) (by unfold zfa zwa; omega)
  refine ⟨by rw [h0]; exact zNI_of (by omega) (by omega), by rw [o 1 (by omega) (by unfold zwa; omega)]; exact hg.2.1, fun w h => ?_, fun e he => zEd_cg (fun k _ => o _ (by unfold zea; omega) (by unfold zea zwa; omega)) (hg.2.2.2.1 e he), fun f hf => ?_, ?_, ?_⟩
  · rw [nW] at h
    by_cases hwn : w = n
    · rw [hwn]; exact hw
    · exact zWd_cg (ow w (by omega)) (hg.2.2.1 w (by rw [en]; omega))
  · rw [nF] at hf
    exact zFm_cg (fun k _ => of f k) (by rw [nW, en]; omega) (fun w h => ow w (by omega) 0 (by omega)) (hg.2.2.2.2.1 f hf)
  · rw [o 13 (by omega) (by unfold zwa; omega)]
    exact ⟨hg.2.2.2.2.2.1.1, fun k hk => by rw [o (467 + k) (by omega) (by unfold zwa; omega)]; exact hg.2.2.2.2.2.1.2 k hk⟩
  · exact zDk_cg (fun k h1 h2 => o k (by omega) (by unfold zwa; omega)) (by rw [nF]; exact Nat.le_refl _) (fun f _ k _ => of f k) (by rw [nW, en]; omega) (fun w h => ow w (by omega) 0 (by omega)) hg
theorem zCB_wd {σ τ : Mem} {g g' : Nat → Int32} {n : Nat} (hg : zBG g) (en : znW g = n) (hn : n < 20) (h0 : g' 0 = nI (n + 1)) (o : ∀ k, k ≠ 0 → ¬ (zwa n ≤ k ∧ k < zwa n + 10) → g' k = g k) (hc : zCB σ 3 g) (c0 : τ 3 1 = nI (n + 1)) (cw : zWB τ (12 + 3 * n) g' n) (cl : zNI (τ (13 + 3 * n) 1) 6)
    (e : ∀ a k, 3 ≤ a → a < 172 → ¬ (a = 3 ∧ k = 1) → ¬ (12 + 3 * n ≤ a ∧ a < 15 + 3 * n) → τ a k = σ a k) : zCB τ 3 g' := by
  have nW : znW g' = n + 1 := by show ix (g' 0) = _; rw [h0, zi_ix (by omega)]
  have nF : znF g' = znF g := by show ix (g' 1) = ix (g 1); rw [o 1 (by omega) (by unfold zwa; omega)]
  have ow : ∀ w, w < n → ∀ k, k < 10 → g' (zwa w + k) = g (zwa w + k) := fun w hw k hk => o _ (by unfold zwa; omega) (by unfold zwa; omega)
  have of : ∀ f k, g' (zfa f + k) = g (zfa f + k) := fun f k => o _ (by unfold zfa; omega) (by unfold zfa zwa; omega)
  have n5 : znF g ≤ 5 := hg.2.1.2
  obtain ⟨⟨c1, c2⟩, c3, c4, c5, c6, c7, c8⟩ := hc
  refine ⟨⟨by rw [c0, h0], by rw [e _ _ (by omega) (by omega) (by omega) (by omega), o 1 (by omega) (by unfold zwa; omega)]; exact c2⟩, fun w hw => ?_, fun w hw => ?_, fun k hk => ?_, fun f hf => ?_, ?_, ?_⟩
  · by_cases hwn : w = n
    · rw [hwn]; exact cl
    · rw [e _ _ (by omega) (by omega) (by omega) (by omega)]; exact c3 w hw
  · rw [nW] at hw
    by_cases hwn : w = n
    · rw [hwn]; exact cw
    · have hw' : w < znW g := by rw [en]; omega
      exact zWB_co (zWB_cg (ow w (by omega)) (hg.2.2.1 w hw') (c4 w hw')) (fun a k p q => e a k (by omega) (by omega) (by omega) (by omega))
  · rw [zen_cg (fun j _ => o _ (by unfold zea; omega) (by unfold zea zwa; omega)) (hg.2.2.2.1 k hk)]
    exact zL_cb (c5 k hk) (fun a k p q => e a k (by omega) (by omega) (by omega) (by omega))
  · rw [nF] at hf
    exact zFB_co (zFB_cg (fun k _ => of f k) (hg.2.2.2.2.1 f hf).1.2 (c6 f hf)) (fun a k p q => e a k (by omega) (by omega) (by omega) (by omega))
  · rw [ztt_cg (o 13 (by omega) (by unfold zwa; omega)) (fun k => o _ (by omega) (by unfold zwa; omega))]
    exact zL_cb c7 (fun a k p q => e a k (by omega) (by omega) (by omega) (by omega))
  · exact zDB_cg (fun k h1 h2 => o k (by omega) (by unfold zwa; omega)) (fun f _ => of f 0) (by rw [nF]; exact n5) hg (zDB_co c8 (fun a k p q => e a k (by omega) (by omega) (by omega) (by omega)))
