def zFsr (τ υ : Mem) : Prop := ∀ y c, ¬ (y = 383 ∧ (c = 4 ∨ c = 7 ∨ c = 8)) → y ≠ 388 → υ y c = τ y c
theorem z_frameM {g : Nat → Int32} {τ : Mem} {l : List Nat} {n : Nat} (h : zMrc g τ l) (hn : n ≤ 5) (h1 : τ 384 1 = nI n) : zW (fX12_frame τ 383) (fun r => r.2 383 4 = nI 0 ∧ ((∃ e, zRr g l [] 0 = .inl e ∧ r.1 = (-100 : Int32) - nI e ∧ zFsr τ r.2) ∨ (∃ hs, zRr g l [] 0 = .inr hs ∧ n = 5 ∧ r.1 = -nI 4 ∧ zFsr τ r.2) ∨ ∃ hs, zRr g l [] 0 = .inr hs ∧ n < 5 ∧ r.1 = nI n ∧ r.2 384 1 = nI (n + 1) ∧ r.2 384 (342 + 25 * n) = nI hs.length ∧ zMrw r.2 (342 + 25 * n) hs ∧ ∀ y c, ¬ (y = 383 ∧ (c = 4 ∨ c = 7 ∨ c = 8)) → y ≠ 388 → ¬ (y = 384 ∧ (c = 1 ∨ (342 + 25 * n ≤ c ∧ c < 342 + 25 * n + 25))) → r.2 y c = τ y c)) := by
  have inb' : ∀ k, k < 517 → inb (nI k) (ln (383 + 1)) = true := fun k hk => by simp (disch := omega) only [Nat.reduceAdd, zl_c, zI]
  have inb5 : ∀ k, k < 25 → inb (nI k) (ln (383 + 5)) = true := fun k hk => by simp (disch := omega) only [Nat.reduceAdd, zl_c, zI]
  obtain ⟨B, hB⟩ : ∃ B, B = 342 + 25 * min n 4 := ⟨_, rfl⟩
  have hB1 : 342 ≤ B := by omega
  have hB2 : B + 25 ≤ 467 := by omega
  unfold fX12_frame
  refine zW_gd (by decide +kernel) (zW_bv (nI n) h1 (zW_bv (nI B) ?_ ?_))
  · simp (disch := omega) only [zLT, zI]
    rw [hB]
  refine zW_lp (fun j a => j ≤ 25 ∧ ∃ υ, a = (nI j, υ) ∧ (∀ k, k < j → υ 388 k = τ 384 (B + k)) ∧ ∀ y c, y ≠ 388 → υ y c = τ y c) 25 ?_ (by unfold FU; omega) ⟨Nat.zero_le _, τ, rfl, fun k hk => absurd hk (by omega), fun _ _ _ => rfl⟩
  rintro j a hj ⟨-, υ, rfl, u1, u2⟩
  unfold sX12_frame_22
  dsimp only
  have c25 : ((25 : Int32) ≤ nI j) ↔ 25 ≤ j := by
    simp (disch := omega) only [zLT, zC]
  refine zW_if (fun q => ?_) (fun q => ?_)
  rotate_left
  · rw [c25] at q
    simp only [zI]
    refine zW_gd (inb' _ (by omega)) (zW_gd (inb5 _ (by omega)) (zW_bv (mw υ 388 j (τ 384 (B + j))) ?_ (zW_bv (nI (j + 1)) (by rw [zLT.2.1, zI.1]) (zW_oL ⟨by omega, by omega, mw υ 388 j (τ 384 (B + j)), rfl, fun k hk => ?_, fun y c p => by simp (disch := omega) only [zM]; exact u2 y c p⟩))))
    · rw [zi_ix (by omega), zi_ix (by omega), u2 (383 + 1) (B + j) (by omega)]
    · by_cases hkj : k = j
      · subst hkj; simp only [zM]
      · simp (disch := omega) only [zM]; exact u1 k (by omega)
  rw [c25] at q
  have : j = 25 := by omega
  subst this
  have hυ : zMrc g υ l := zMrc_co h (fun k hk => u2 _ _ (by omega)) (u2 _ _ (by omega)) (fun k => u2 _ _ (by omega))
  obtain ⟨r, v1, v2, v3⟩ := z_readsF hυ hB1 hB2
  refine zW_oR (zW_ob v1 (zW_bv (mw r 383 4 (nI 0)) rfl ?_))
  have s1 : ∀ y c, ¬ (y = 383 ∧ (c = 4 ∨ c = 7 ∨ c = 8)) → ¬ (y = 384 ∧ B ≤ c ∧ c < B + 25) → (mw r 383 4 (nI 0)) y c = υ y c := fun y c q1 q2 => by
    simp (disch := omega) only [zM]
    exact v3 y c (by omega) q2
  have s4 : (mw r 383 4 (nI 0)) 383 4 = nI 0 := by simp only [zM]
  have s7 : ∀ y c, ¬ (y = 383 ∧ c = 4) → (mw r 383 4 (nI 0)) y c = r y c := fun y c q => by simp (disch := omega) only [zM]
  generalize mw r 383 4 (nI 0) = m at *
  -- the row as it was
  have rest : ∀ (Q : Int32 × Mem → Prop), (∀ υ', υ' 383 4 = nI 0 → υ' 383 7 = m 383 7 → zFsr τ υ' → Q (if υ' 383 7 < 0 then (-4 : Int32) else (-100 : Int32) - υ' 383 7, υ')) → zW (lp (sX12_frame_84 383 (nI B)) FU ((0 : Int32), m)) Q := by
    intro Q hQ
    refine zW_lp (fun i a => i ≤ 25 ∧ ∃ υ', a = (nI i, υ') ∧ (∀ k, k < i → υ' 384 (B + k) = τ 384 (B + k)) ∧ ∀ y c, ¬ (y = 384 ∧ B ≤ c ∧ c < B + 25) → υ' y c = m y c) 25 ?_ (by unfold FU; omega) ⟨Nat.zero_le _, m, rfl, fun k hk => absurd hk (by omega), fun _ _ _ => rfl⟩
    rintro i a hi ⟨-, υ', rfl, w1, w2⟩
    unfold sX12_frame_84
    dsimp only
    have c25' : ((25 : Int32) ≤ nI i) ↔ 25 ≤ i := by
      simp (disch := omega) only [zLT, zC]
    refine zW_if (fun q => ?_) (fun q => ?_)
    · rw [c25'] at q
      have : i = 25 := by omega
      subst this
      have := hQ υ' (by rw [w2 _ _ (by omega)]; exact s4) (w2 _ _ (by omega)) (fun y c q1 q2 => by
        by_cases hr : y = 384 ∧ B ≤ c ∧ c < B + 25
        · obtain ⟨rfl, hr1, hr2⟩ := hr
          have := w1 (c - B) (by omega)
          rw [show B + (c - B) = c by omega] at this
          exact this
        · rw [w2 y c hr, s1 y c q1 hr, u2 y c q2])
      refine zW_oR (zW_if (fun e => zW_so ?_) (fun e => zW_so ?_))
      · rw [if_pos e] at this; exact this
      · rw [if_neg e] at this; exact this
    · rw [c25'] at q
      simp only [zI]
      refine zW_gd (inb5 _ (by omega)) (zW_gd (inb' _ (by omega)) (zW_bv (mw υ' 384 (B + i) (τ 384 (B + i))) ?_ (zW_bv (nI (i + 1)) (by rw [zLT.2.1, zI.1]) (zW_oL ⟨by omega, by omega, mw υ' 384 (B + i) (τ 384 (B + i)), rfl, fun k hk => ?_, fun y c p => by simp (disch := omega) only [zM]; exact w2 y c p⟩))))
      · rw [zi_ix (by omega), zi_ix (by omega), w2 (383 + 5) i (by omega), s1 (383 + 5) i (by omega) (by omega), u1 i (by omega)]
      · by_cases hki : k = i
        · subst hki; simp only [zM]
        · simp (disch := omega) only [zM]; exact w1 k (by omega)
  rcases v2 with ⟨e, e1, e2, e3⟩ | ⟨hs, e1, e2, e3, e4, e5, e6, e7⟩
  · have m7 : m 383 7 = nI e := by rw [s7 _ _ (by omega)]; exact e3
    refine zW_jn (fun _ : Unit => True) (fun _ _ => rest _ (fun υ' a b c => ⟨a, Or.inl ⟨e, e1, ?_, c⟩⟩)) (fun k hk => zW_t ?_ (hk _ trivial))
    · rw [b, m7]
      exact if_neg (nI_pos (by omega))
    · rw [m7]; simp (disch := omega) only [zLT, zC]; omega
  · have m7 : m 383 7 = -nI 1 := by rw [s7 _ _ (by omega)]; exact e2
    refine zW_jn (fun _ : Unit => n = 5) (fun _ h5 => rest _ (fun υ' a b c => ⟨a, Or.inr (Or.inl ⟨hs, e1, h5, ?_, c⟩)⟩)) (fun k hk => zW_f ?_ (zW_if (fun q => hk _ ?_) (fun q => ?_)))
    · rw [b, m7]
      rfl
    · rw [m7]; decide +kernel
    · simp (disch := omega) only [zLT, zC] at q; omega
    · simp (disch := omega) only [zLT, zC] at q
      have hBn : B = 342 + 25 * n := by omega
      have m1 : m 384 1 = nI n := by rw [s1 _ _ (by omega) (by omega), u2 _ _ (by omega)]; exact h1
      refine zW_gd (by decide +kernel) (zW_gd (by decide +kernel) (zW_bv (mw m 384 1 (nI (n + 1))) ?_ (zW_so ⟨?_, Or.inr (Or.inr ⟨hs, e1, by omega, rfl, ?_, ?_, ?_, ?_⟩)⟩)))
      · have : m (383 + 1) (ix (1 : Int32)) = nI n := m1
        rw [this, zLT.2.1, zI.1]
        rfl
      · simp (disch := omega) only [zM]; exact s4
      · simp only [zM]
      · simp (disch := omega) only [zM]; rw [← hBn, s7 _ _ (by omega)]; exact e6
      · intro k hk
        have h6 := e3.1
        rw [← hBn]
        dsimp only
        simp (disch := omega) only [zM]
        rw [s7 _ _ (by omega), s7 _ _ (by omega), s7 _ _ (by omega), s7 _ _ (by omega)]
        exact e7 k hk
      · intro y c q1 q2 q3
        dsimp only
        simp (disch := omega) only [zM]
        rw [s1 y c q1 (by omega), u2 y c q2]
theorem z_becFn {σ : Mem} {n : Nat} (hn : n < 5) : ∃ τ, fX3_become σ (142 + 6 * n) 342 = some τ ∧ τ (142 + 6 * n) 0 = σ 342 0 ∧ (∀ a k, 1 ≤ a → a < 5 → k < 6 → τ (142 + 6 * n + a) k = σ (342 + a) k) ∧ (∀ k, k < 3 → τ (142 + 6 * n + 5) k = σ 347 k) ∧ ∀ x k, ¬ (142 + 6 * n ≤ x ∧ x < 142 + 6 * n + 6) → τ x k = σ x k := by
  obtain ⟨f1, f2, b1, b2, b3, b4, b5⟩ := zl_f
  have a1 := f1 (142 + 6 * n + 1) (by omega) (by omega) (by omega) (by omega)
  have a2 := f1 (142 + 6 * n + 2) (by omega) (by omega) (by omega) (by omega)
  have a3 := f1 (142 + 6 * n + 3) (by omega) (by omega) (by omega) (by omega)
  have a4 := f1 (142 + 6 * n + 4) (by omega) (by omega) (by omega) (by omega)
  have a5 := f2 (142 + 6 * n + 5) (by omega) (by omega) (by omega)
  unfold fX3_become
  simp only [show (342 : Nat) + 1 = 343 from rfl, show (342 : Nat) + 2 = 344 from rfl, show (342 : Nat) + 3 = 345 from rfl, show (342 : Nat) + 4 = 346 from rfl, show (342 : Nat) + 5 = 347 from rfl]
  rw [a1, a2, a3, a4, a5, b1, b2, b3, b4, b5]
  generalize hB : 142 + 6 * n = B
  have hBC : B + 6 ≤ 172 := by omega
  simp (disch := omega) only [zLT, zI, zE]
  refine ⟨_, rfl, ?_, ?_, ?_, ?_⟩
  · simp (disch := omega) only [zM]
  · intro a k h1 h2 hk
    rcases (show a = 1 ∨ a = 2 ∨ a = 3 ∨ a = 4 by omega) with rfl | rfl | rfl | rfl
    all_goals
      simp (disch := omega) only [zM]
      rw [show 0 + (k - 0) = k by omega]
  · intro k hk
    simp (disch := omega) only [zM]
    rw [show 0 + (k - 0) = k by omega]
  · intro x k hx
    simp (disch := omega) only [zM]
/-- one frame more -/
theorem zBG_fr {g g' : Nat → Int32} {n : Nat} (hg : zBG g) (en : znF g = n) (hn : n < 5) (h1 : g' 1 = nI (n + 1)) (o : ∀ k, k ≠ 1 → ¬ (zfa n ≤ k ∧ k < zfa n + 25) → g' k = g k) (hw : zFm g' n) : zBG g' := by
  have nF : znF g' = n + 1 := by show ix (g' 1) = _; rw [h1, zi_ix (by omega)]
  have nW : znW g' = znW g := by show ix (g' 0) = ix (g 0); rw [o 0 (by omega) (by unfold zfa; omega)]
  have n20 : znW g ≤ 20 := hg.1.2
  have ow : ∀ w, w < znW g → ∀ k, k < 10 → g' (zwa w + k) = g (zwa w + k) := fun w hw k hk => o _ (by unfold zwa; omega) (by unfold zwa zfa; omega)
  have of : ∀ f, f < n → ∀ k, k < 25 → g' (zfa f + k) = g (zfa f + k) := fun f hf k hk => o _ (by unfold zfa; omega) (by unfold zfa; omega)
  refine ⟨by rw [o 0 (by omega) (by unfold zfa; omega)]; exact hg.1, by rw [h1]; exact zNI_of (by omega) (by omega), fun w h => ?_, fun e he => zEd_cg (fun k hk => o _ (by unfold zea; omega) (by unfold zea zfa; omega)) (hg.2.2.2.1 e he), fun f hf => ?_, ?_, ?_⟩
  · rw [nW] at h
    exact zWd_cg (ow w h) (hg.2.2.1 w h)
  · rw [nF] at hf
    by_cases hfn : f = n
    · rw [hfn]; exact hw
    · exact zFm_cg (of f (by omega)) (by rw [nW]; exact Nat.le_refl _) (fun w h => ow w h 0 (by omega)) (hg.2.2.2.2.1 f (by rw [en]; omega))
  · rw [o 13 (by omega) (by unfold zfa; omega)]
    exact ⟨hg.2.2.2.2.2.1.1, fun k hk => by rw [o (467 + k) (by omega) (by unfold zfa; omega)]; exact hg.2.2.2.2.2.1.2 k hk⟩
  · exact zDk_cg (fun k h1 h2 => o k (by omega) (by unfold zfa; omega)) (by rw [nF, en]; omega) (fun f hf => of f (by omega)) (by rw [nW]; exact Nat.le_refl _) (fun w h => ow w h 0 (by omega)) hg
theorem zCB_fr {σ τ : Mem} {g g' : Nat → Int32} {n : Nat} (hg : zBG g) (en : znF g = n) (hn : n < 5) (h1 : g' 1 = nI (n + 1)) (o : ∀ k, k ≠ 1 → ¬ (zfa n ≤ k ∧ k < zfa n + 25) → g' k = g k) (hc : zCB σ 3 g) (c0 : τ 3 5 = nI (n + 1)) (cw : zFB τ (142 + 6 * n) g' n)
    (e : ∀ a k, 3 ≤ a → a < 172 → ¬ (a = 3 ∧ k = 5) → ¬ (142 + 6 * n ≤ a ∧ a < 148 + 6 * n) → τ a k = σ a k) : zCB τ 3 g' := by
  have nF : znF g' = n + 1 := by show ix (g' 1) = _; rw [h1, zi_ix (by omega)]
  have nW : znW g' = znW g := by show ix (g' 0) = ix (g 0); rw [o 0 (by omega) (by unfold zfa; omega)]
  have n20 : znW g ≤ 20 := hg.1.2
  have ow : ∀ w, w < znW g → ∀ k, k < 10 → g' (zwa w + k) = g (zwa w + k) := fun w hw k hk => o _ (by unfold zwa; omega) (by unfold zwa zfa; omega)
  have of : ∀ f, f < n → ∀ k, k < 25 → g' (zfa f + k) = g (zfa f + k) := fun f hf k hk => o _ (by unfold zfa; omega) (by unfold zfa; omega)
  obtain ⟨⟨c1, c2⟩, c3, c4, c5, c6, c7, c8⟩ := hc
  refine ⟨⟨by rw [e _ _ (by omega) (by omega) (by omega) (by omega), o 0 (by omega) (by unfold zfa; omega)]; exact c1, by rw [c0, h1]⟩, fun w hw => ?_, fun w hw => ?_, fun k hk => ?_, fun f hf => ?_, ?_, ?_⟩
  · rw [e _ _ (by omega) (by omega) (by omega) (by omega)]; exact c3 w hw
  · rw [nW] at hw
    exact zWB_co (zWB_cg (ow w (by omega)) (hg.2.2.1 w hw) (c4 w hw)) (fun a k p q => e a k (by omega) (by omega) (by omega) (by omega))
  · rw [zen_cg (fun j _ => o _ (by unfold zea; omega) (by unfold zea zfa; omega)) (hg.2.2.2.1 k hk)]
    exact zL_cb (c5 k hk) (fun a k p q => e a k (by omega) (by omega) (by omega) (by omega))
  · rw [nF] at hf
    by_cases hfn : f = n
    · rw [hfn]; exact cw
    · have hf' : f < znF g := by rw [en]; omega
      exact zFB_co (zFB_cg (of f (by omega)) (hg.2.2.2.2.1 f hf').1.2 (c6 f hf')) (fun a k p q => e a k (by omega) (by omega) (by omega) (by omega))
  · rw [ztt_cg (o 13 (by omega) (by unfold zfa; omega)) (fun k => o _ (by omega) (by unfold zfa; omega))]
    exact zL_cb c7 (fun a k p q => e a k (by omega) (by omega) (by omega) (by omega))
  · exact zDB_cg (fun k h1 h2 => o k (by omega) (by unfold zfa; omega)) (fun f hf => of f (by omega) 0 (by omega)) (by rw [nF]; omega) hg (zDB_co c8 (fun a k p q => e a k (by omega) (by omega) (by omega) (by omega)))
