theorem z_isIn {σ : Mem} {a b c : Nat} (h1 : a ≤ b) (h2 : b ≤ c) (hc : c < 2 ^ 31) : fX12_isIn σ (nI b) (nI a) (nI c) = some (nI 1) := by
  unfold fX12_isIn
  simp (disch := omega) only [zLT, zC, if_neg]
theorem z_isInN {σ : Mem} {x a c : Int32} (h : x < a ∨ c < x) : fX12_isIn σ x a c = some (nI 0) := by
  unfold fX12_isIn
  rcases h with h | h
  · rw [if_pos h]; rfl
  · by_cases h0 : x < a
    · rw [if_pos h0]; rfl
    · rw [if_neg h0, if_pos h]; rfl
theorem z_pred {x : Int32} {n : Nat} (hn : n < 2 ^ 30) (h : x < 0 ∨ nI n ≤ x) : x < nI 0 ∨ nI n - nI 1 < x := by
  rcases h with h | h
  · exact Or.inl h
  · right
    rw [Int32.lt_iff_toInt_lt, pk_sub_toInt hn (by omega)]
    rw [Int32.le_iff_toInt_le, nI_toInt (by omega)] at h
    omega
theorem z_isInP {σ : Mem} {w n : Nat} (h : w < n) (hn : n < 2 ^ 30) : fX12_isIn σ (nI w) (nI 0) (nI n - nI 1) = some (nI 1) := by
  rw [zi_sub (by omega)]
  exact z_isIn (by omega) (by omega) (by omega)
theorem z_wordAt {σ : Mem} {g : Nat → Int32} {w : Nat} (hg : zBG g) (hc : zCB σ 3 g) (hw : w < znW g) : fX0_wordAt σ 3 (nI w) = some (some (12 + 3 * w)) := by
  have h1 := hg.1
  have hw20 : w < 20 := Nat.lt_of_lt_of_le hw h1.2
  have e : σ 3 1 = nI (znW g) := hc.1.1.trans h1.1
  have h2 : znW g ≤ 20 := h1.2
  unfold fX0_wordAt
  simp (disch := omega) only [zLT, zC, e, if_neg, zE, zI, Nat.reduceAdd, zl_c]
theorem z_wordAtN {σ : Mem} {g : Nat → Int32} {x : Int32} (hg : zBG g) (hc : zCB σ 3 g) (h : x < 0 ∨ nI (znW g) ≤ x) : fX0_wordAt σ 3 x = some none := by
  have e : σ 3 1 = nI (znW g) := hc.1.1.trans hg.1.1
  unfold fX0_wordAt
  by_cases h0 : x < 0
  · rw [if_pos h0]
  · rw [if_neg h0, e, if_pos (h.resolve_left h0)]
theorem z_frameAt {σ : Mem} {g : Nat → Int32} {f : Nat} (hg : zBG g) (hc : zCB σ 3 g) (hw : f < znF g) : fX0_frameAt σ 3 (nI f) = some (some (142 + 6 * f)) := by
  have h1 := hg.2.1
  have h2 : znF g ≤ 5 := h1.2
  have e : σ 3 5 = nI (znF g) := hc.1.2.trans h1.1
  unfold fX0_frameAt
  simp (disch := omega) only [zLT, zC, e, if_neg, zE, zI, Nat.reduceAdd, zl_c]
theorem z_frameAtN {σ : Mem} {g : Nat → Int32} {x : Int32} (hg : zBG g) (hc : zCB σ 3 g) (h : x < 0 ∨ nI (znF g) ≤ x) : fX0_frameAt σ 3 x = some none := by
  have e : σ 3 5 = nI (znF g) := hc.1.2.trans hg.2.1.1
  unfold fX0_frameAt
  by_cases h0 : x < 0
  · rw [if_pos h0]
  · rw [if_neg h0, e, if_pos (h.resolve_left h0)]
theorem z_isWord {σ : Mem} {g : Nat → Int32} {w : Nat} (hg : zBG g) (hM : zMG σ g) (hw : w < znW g) : fX12_isWord σ 383 (nI w) = some (nI 1) := by
  have h2 : znW g ≤ 20 := hg.1.2
  have e : σ 384 0 = nI (znW g) := (hM 0 (by omega)).trans hg.1.1
  unfold fX12_isWord
  simp (disch := omega) only [zLT, zI, Nat.reduceAdd, zl_c, zE, e]
  rw [z_isIn (by omega) (by omega) (by omega)]
  rfl
theorem z_isWordN {σ : Mem} {g : Nat → Int32} {x : Int32} (hg : zBG g) (hM : zMG σ g) (h : x < 0 ∨ nI (znW g) ≤ x) : fX12_isWord σ 383 x = some (nI 0) := by
  have h2 : znW g ≤ 20 := hg.1.2
  have e : σ 384 0 = nI (znW g) := (hM 0 (by omega)).trans hg.1.1
  unfold fX12_isWord
  have e0 : ix (nI 0) = 0 := zi_ix (by omega)
  have e1 : inb (nI 0) 517 = true := zi_inb (by omega) (by omega)
  simp only [zLT, Nat.reduceAdd, zl_c, e1, zE, e0, e]
  rw [z_isInN (z_pred (by omega) h)]
  rfl
theorem z_isFrame {σ : Mem} {g : Nat → Int32} {f : Nat} (hg : zBG g) (hM : zMG σ g) (hw : f < znF g) : fX12_isFrame σ 383 (nI f) = some (nI 1) := by
  have h2 : znF g ≤ 5 := hg.2.1.2
  have e : σ 384 1 = nI (znF g) := (hM 1 (by omega)).trans hg.2.1.1
  unfold fX12_isFrame
  simp (disch := omega) only [zLT, zI, Nat.reduceAdd, zl_c, zE, e]
  rw [z_isIn (by omega) (by omega) (by omega)]
  rfl
theorem z_isFrameN {σ : Mem} {g : Nat → Int32} {x : Int32} (hg : zBG g) (hM : zMG σ g) (h : x < 0 ∨ nI (znF g) ≤ x) : fX12_isFrame σ 383 x = some (nI 0) := by
  have h2 : znF g ≤ 5 := hg.2.1.2
  have e : σ 384 1 = nI (znF g) := (hM 1 (by omega)).trans hg.2.1.1
  unfold fX12_isFrame
  have e0 : ix (nI 1) = 1 := zi_ix (by omega)
  have e1 : inb (nI 1) 517 = true := zi_inb (by omega) (by omega)
  simp only [zLT, Nat.reduceAdd, zl_c, e1, zE, e0, e]
  rw [z_isInN (z_pred (by omega) h)]
  rfl
theorem z_kind {σ : Mem} {g : Nat → Int32} {w : Nat} (hM : zMG σ g) (hw : w < 20) : fX12_kind σ 383 (nI w) = some (g (zwa w)) := by
  unfold fX12_kind
  simp (disch := omega) only [zLT, zI, Nat.reduceAdd, zl_c, zE]
  rw [hM _ (by omega)]
theorem z_gender {σ : Mem} {g : Nat → Int32} {w : Nat} (hM : zMG σ g) (hw : w < 20) : fX12_gender σ 383 (nI w) = some (g (zwa w + 2)) := by
  unfold fX12_gender
  simp (disch := omega) only [zLT, zI, Nat.reduceAdd, zl_c, zE]
  rw [hM _ (by omega)]
theorem z_holes {σ : Mem} {g : Nat → Int32} {f : Nat} (hM : zMG σ g) (hw : f < 5) : fX12_holes σ 383 (nI f) = some (g (zfa f)) := by
  unfold fX12_holes
  simp (disch := omega) only [zLT, zI, Nat.reduceAdd, zl_c, zE]
  rw [hM _ (by omega)]
theorem z_ofHole {σ : Mem} {g : Nat → Int32} {f i k : Nat} (hM : zMG σ g) (hw : f < 5) (hi : i < 6) (hk : k < 4) : fX12_ofHole σ 383 (nI f) (nI i) (nI k) = some (g (zha f i + k)) := by
  unfold fX12_ofHole
  simp (disch := omega) only [zLT, zI, Nat.reduceAdd, zl_c, zE]
  rw [hM _ (by omega)]
theorem z_has {σ : Mem} {i n k : Nat} (h : σ i 0 = nI n) (hn : n < 2 ^ 31) (hk : k < n) : fX3_has σ i (nI k) = some (nI 1) := by
  unfold fX3_has
  simp (disch := omega) only [zLT, zC, h, if_neg]
theorem z_hasN {σ : Mem} {i n : Nat} {x : Int32} (h : σ i 0 = nI n) (hx : x < 0 ∨ nI n ≤ x) : fX3_has σ i x = some (nI 0) := by
  unfold fX3_has
  by_cases h0 : x < 0
  · rw [if_pos h0]; rfl
  · rw [if_neg h0, h, if_pos (hx.resolve_left h0)]; rfl
theorem zl_f : (∀ x, 142 ≤ x → x < 172 → ¬ (x - 142) % 6 = 0 → ¬ (x - 142) % 6 = 5 → ln x = 6) ∧ (∀ x, 142 ≤ x → x < 172 → (x - 142) % 6 = 5 → ln x = 3) ∧ ln 343 = 6 ∧ ln 344 = 6 ∧ ln 345 = 6 ∧ ln 346 = 6 ∧ ln 347 = 3 := by
  have k1 : ∀ x : Fin 402, 142 ≤ x.1 → x.1 < 172 → ¬ (x.1 - 142) % 6 = 0 → ¬ (x.1 - 142) % 6 = 5 → ln x.1 = 6 := by decide +kernel
  have k2 : ∀ x : Fin 402, 142 ≤ x.1 → x.1 < 172 → (x.1 - 142) % 6 = 5 → ln x.1 = 3 := by decide +kernel
  exact ⟨fun x h1 h2 h3 h4 => k1 ⟨x, by omega⟩ h1 h2 h3 h4, fun x h1 h2 h3 => k2 ⟨x, by omega⟩ h1 h2 h3, by decide +kernel⟩
/-- what is known of a frame that there is -/
theorem zF_n {σ : Mem} {g : Nat → Int32} {f : Nat} (hg : zBG g) (hc : zCB σ 3 g) (hf : f < znF g) : f < 5 ∧ zFm g f ∧ zFB σ (142 + 6 * f) g f ∧ σ (142 + 6 * f) 0 = nI (znH g f) ∧ znH g f ≤ 6 ∧ 1 ≤ znH g f := by
  have h1 := hg.2.2.2.2.1 f hf
  have h2 := hc.2.2.2.2.1 f hf
  rw [show 3 + 139 + 6 * f = 142 + 6 * f by omega] at h2
  exact ⟨Nat.lt_of_lt_of_le hf hg.2.1.2, h1, h2, h2.1.trans h1.1.1, h1.1.2, h1.2.1⟩
theorem z_sortOf {σ : Mem} {g : Nat → Int32} {f i : Nat} (hg : zBG g) (hc : zCB σ 3 g) (hf : f < znF g) (hi : i < znH g f) : fX3_sortOf σ (142 + 6 * f) (nI i) = some (nI (zso (ix (g (zha f i))))) := by
  obtain ⟨h0, h1, h2, h3, h4, h5⟩ := zF_n hg hc hf
  unfold fX3_sortOf
  rw [z_has h3 (by omega) hi]
  simp (disch := omega) only [zE, zLT, zn01, if_false, zl_f, zI, h2.2.1 i hi]
theorem z_groupOf {σ : Mem} {g : Nat → Int32} {f i : Nat} (hg : zBG g) (hc : zCB σ 3 g) (hf : f < znF g) (hi : i < znH g f) : fX3_groupOf σ (142 + 6 * f) (nI i) = some (g (zha f i + 1)) := by
  obtain ⟨h0, h1, h2, h3, h4, h5⟩ := zF_n hg hc hf
  unfold fX3_groupOf
  rw [z_has h3 (by omega) hi]
  simp (disch := omega) only [zE, zLT, zn01, if_false, zl_f, zI, h2.2.1 i hi]
theorem z_caseOf {σ : Mem} {g : Nat → Int32} {f i : Nat} (hg : zBG g) (hc : zCB σ 3 g) (hf : f < znF g) (hi : i < znH g f) : fX3_caseOf σ (142 + 6 * f) (nI i) = some (g (zha f i + 2)) := by
  obtain ⟨h0, h1, h2, h3, h4, h5⟩ := zF_n hg hc hf
  unfold fX3_caseOf
  rw [z_has h3 (by omega) hi]
  simp (disch := omega) only [zE, zLT, zn01, if_false, zl_f, zI, h2.2.1 i hi]
theorem z_plainOf {σ : Mem} {g : Nat → Int32} {f i : Nat} (hg : zBG g) (hc : zCB σ 3 g) (hf : f < znF g) (hi : i < znH g f) : fX3_plainOf σ (142 + 6 * f) (nI i) = some (g (zha f i + 3)) := by
  obtain ⟨h0, h1, h2, h3, h4, h5⟩ := zF_n hg hc hf
  unfold fX3_plainOf
  rw [z_has h3 (by omega) hi]
  simp (disch := omega) only [zE, zLT, zn01, if_false, zl_f, zI, h2.2.1 i hi]
theorem z_nounOf {σ : Mem} {f gr : Nat} (hf : f < 5) (hi : gr < 3) : fX3_nounOf σ (142 + 6 * f) (nI gr) = some (σ (147 + 6 * f) gr) := by
  unfold fX3_nounOf
  simp (disch := omega) only [zLT, z_below, zE, zn01, if_false, zl_f, zI]
  rw [show 142 + 6 * f + 5 = 147 + 6 * f by omega]
theorem zHo_l {g : Nat → Int32} {c gr ca wo : Int32} (h : zHo g c gr ca wo) : ∃ n, c = nI n ∧ ix c = n ∧ (n = 110 ∨ n = 118 ∨ n = 102 ∨ n = 112) := by
  have e : ∀ n, n < 2 ^ 31 → ix (nI n) = n := fun n hn => zi_ix hn
  rcases h with h | h | h | h
  · exact ⟨110, h.1, by rw [h.1]; exact e _ (by omega), by omega⟩
  · exact ⟨118, h.1, by rw [h.1]; exact e _ (by omega), by omega⟩
  · exact ⟨102, h.1, by rw [h.1]; exact e _ (by omega), by omega⟩
  · exact ⟨112, h.1, by rw [h.1]; exact e _ (by omega), by omega⟩
theorem zHo_p {g : Nat → Int32} {c gr ca wo : Int32} (h : zHo g c gr ca wo) (hc : c = nI 112) : gr = -nI 1 ∧ ca = -nI 1 ∧ zNI wo 19 ∧ ix wo < znW g ∧ g (zwa (ix wo)) = nI 0 := by
  rcases h with h | h | h | h
  · rw [h.1] at hc; exact absurd hc (by decide +kernel)
  · rw [h.1] at hc; exact absurd hc (by decide +kernel)
  · rw [h.1] at hc; exact absurd hc (by decide +kernel)
  · exact h.2
theorem zHo_g {g : Nat → Int32} {c gr ca wo : Int32} (h : zHo g c gr ca wo) (hc : c ≠ nI 112) : zNI gr 2 ∧ (zNI ca 3 ∨ ca = -nI 1) := by
  rcases h with h | h | h | h
  · exact ⟨h.2.1, Or.inl h.2.2.1⟩
  · exact ⟨h.2.1, Or.inr h.2.2.1⟩
  · exact ⟨h.2.1, Or.inl h.2.2.1⟩
  · exact absurd h.1 hc
theorem z_takes {σ : Mem} {g : Nat → Int32} {f i w : Nat} (hg : zBG g) (hc : zCB σ 3 g) (hn : zNG σ) (hf : f < znF g) (hi : i < znH g f) (hw : w < znW g) : fX3_takes σ (142 + 6 * f) (nI i) (12 + 3 * w) = some (if zcan g f i w then nI 1 else nI 0) := by
  obtain ⟨h0, h1, h2, h3, h4, h5⟩ := zF_n hg hc hf
  obtain ⟨q1, q2, q3, q4⟩ := h2.2.1 i hi
  have hw20 : w < 20 := Nat.lt_of_lt_of_le hw hg.1.2
  have k0 := hn.1 w hw20
  obtain ⟨⟨w0, w1⟩, -⟩ := hg.2.2.1 w hw
  have k2 := (hc.2.2.1 w hw).1
  rw [show 3 + 9 + 3 * w = 12 + 3 * w by omega, w0] at k2
  obtain ⟨n, l1, l2, l3⟩ := zHo_l (h1.2.2.1 i hi)
  have hwo : n = 112 → g (zha f i + 3) = nI (ix (g (zha f i + 3))) ∧ ix (g (zha f i + 3)) ≤ 19 := fun e => by
    subst e
    have := (zHo_p (h1.2.2.1 i hi) l1).2.2.1
    exact ⟨this.1, this.2⟩
  have : zW (fX3_takes σ (142 + 6 * f) (nI i) (12 + 3 * w)) (fun r => r = if zcan g f i w then nI 1 else nI 0) := by
    unfold fX3_takes
    refine zW_ob (z_has h3 (by omega) hi) ?_
    refine zW_f zn01 ?_
    refine zW_gd (by simp (disch := omega) only [zl_f, zI]) ?_
    have e1 : σ (142 + 6 * f + 1) (ix (nI i)) = nI (zso n) := by rw [zi_ix (by omega), q1, l2]
    rw [e1, k2]
    have zz : ∀ b, (if n = 110 then ix (g (zwa w)) == 1 || ix (g (zwa w)) == 3 else if n = 118 then ix (g (zwa w)) == 2 || ix (g (zwa w)) == 5 else if n = 102 then ix (g (zwa w)) == 4 else w == ix (g (zha f i + 3))) = b → zcan g f i w = b := fun b h => by unfold zcan; rw [l2]; exact h
    generalize hkk : ix (g (zwa w)) = kd at *
    rcases l3 with r | r | r | r <;> subst r
    · refine zW_t rfl ?_
      have hz : zcan g f i w = (kd == 1 || kd == 3) := zz _ rfl
      rw [hz]
      refine zW_if (fun h => ?_) (fun h => zW_if (fun h' => ?_) (fun h' => ?_)) <;> refine zW_so ?_ <;> simp (disch := omega) only [zLT, zC] at h
      · subst h; rfl
      · simp (disch := omega) only [zLT, zC] at h'; subst h'; rfl
      · simp (disch := omega) only [zLT, zC] at h'; rw [if_neg]; · rfl
        · simp [h, h']
    · refine zW_f (by decide +kernel) (zW_t rfl ?_)
      have hz : zcan g f i w = (kd == 2 || kd == 5) := zz _ rfl
      rw [hz]
      refine zW_if (fun h => ?_) (fun h => zW_if (fun h' => ?_) (fun h' => ?_)) <;> refine zW_so ?_ <;> simp (disch := omega) only [zLT, zC] at h
      · subst h; rfl
      · simp (disch := omega) only [zLT, zC] at h'; subst h'; rfl
      · simp (disch := omega) only [zLT, zC] at h'; rw [if_neg]; · rfl
        · simp [h, h']
    · refine zW_f (by decide +kernel) (zW_f (by decide +kernel) (zW_t rfl ?_))
      have hz : zcan g f i w = (kd == 4) := zz _ rfl
      rw [hz]
      refine zW_if (fun h => ?_) (fun h => ?_) <;> refine zW_so ?_ <;> simp (disch := omega) only [zLT, zC] at h
      · subst h; rfl
      · rw [if_neg]; · rfl
        · simp [h]
    · refine zW_f (by decide +kernel) (zW_f (by decide +kernel) (zW_f (by decide +kernel) (zW_t rfl ?_)))
      refine zW_gd (by simp (disch := omega) only [zl_f, zI]) ?_
      obtain ⟨r1, r2⟩ := hwo rfl
      have e2 : σ (142 + 6 * f + 4) (ix (nI i)) = nI (ix (g (zha f i + 3))) := by rw [zi_ix (by omega), q4, ← r1]
      have hz : zcan g f i w = (w == ix (g (zha f i + 3))) := zz _ rfl
      rw [e2, k0, hz]
      refine zW_if (fun h => ?_) (fun h => ?_) <;> refine zW_so ?_ <;> simp (disch := omega) only [zLT, zC] at h
      · rw [if_pos]; · rfl
        · simp only [beq_iff_eq]; exact h
      · rw [if_neg]; · rfl
        · simp only [beq_iff_eq]; exact h
  obtain ⟨r, e, q⟩ := this
  rw [e, q]
theorem z_canBe {σ : Mem} {g : Nat → Int32} {f i w : Nat} (hg : zBG g) (hM : zMG σ g) (hf : f < znF g) (hi : i < znH g f) (hw : w < znW g) : fX12_canBe σ 383 (nI f) (nI i) (nI w) = some (if zcan g f i w then nI 1 else nI 0) := by
  have h0 : f < 5 := Nat.lt_of_lt_of_le hf hg.2.1.2
  have h1 := hg.2.2.2.2.1 f hf
  have h4 : znH g f ≤ 6 := h1.1.2
  have hw20 : w < 20 := Nat.lt_of_lt_of_le hw hg.1.2
  obtain ⟨⟨w0, w1⟩, -⟩ := hg.2.2.1 w hw
  obtain ⟨n, l1, l2, l3⟩ := zHo_l (h1.2.2.1 i hi)
  have hwo : n = 112 → g (zha f i + 3) = nI (ix (g (zha f i + 3))) ∧ ix (g (zha f i + 3)) ≤ 19 := fun e => by
    subst e
    have := (zHo_p (h1.2.2.1 i hi) l1).2.2.1
    exact ⟨this.1, this.2⟩
  have : zW (fX12_canBe σ 383 (nI f) (nI i) (nI w)) (fun r => r = if zcan g f i w then nI 1 else nI 0) := by
    unfold fX12_canBe
    refine zW_ob (z_ofHole (k := 0) hM h0 (by omega) (by omega)) ?_
    refine zW_ob (z_kind hM hw20) ?_
    rw [Nat.add_zero, l1, w0]
    have zz : ∀ b, (if n = 110 then ix (g (zwa w)) == 1 || ix (g (zwa w)) == 3 else if n = 118 then ix (g (zwa w)) == 2 || ix (g (zwa w)) == 5 else if n = 102 then ix (g (zwa w)) == 4 else w == ix (g (zha f i + 3))) = b → zcan g f i w = b := fun b h => by unfold zcan; rw [l2]; exact h
    generalize hkk : ix (g (zwa w)) = kd at *
    rcases l3 with r | r | r | r <;> subst r
    · refine zW_t rfl ?_
      have hz : zcan g f i w = (kd == 1 || kd == 3) := zz _ rfl
      rw [hz]
      refine zW_if (fun h => ?_) (fun h => zW_if (fun h' => ?_) (fun h' => ?_)) <;> refine zW_so ?_ <;> simp (disch := omega) only [zLT, zC] at h
      · subst h; rfl
      · simp (disch := omega) only [zLT, zC] at h'; subst h'; rfl
      · simp (disch := omega) only [zLT, zC] at h'; rw [if_neg]; · rfl
        · simp [h, h']
    · refine zW_f (by decide +kernel) (zW_t rfl ?_)
      have hz : zcan g f i w = (kd == 2 || kd == 5) := zz _ rfl
      rw [hz]
      refine zW_if (fun h => ?_) (fun h => zW_if (fun h' => ?_) (fun h' => ?_)) <;> refine zW_so ?_ <;> simp (disch := omega) only [zLT, zC] at h
      · subst h; rfl
      · simp (disch := omega) only [zLT, zC] at h'; subst h'; rfl
      · simp (disch := omega) only [zLT, zC] at h'; rw [if_neg]; · rfl
        · simp [h, h']
    · refine zW_f (by decide +kernel) (zW_f (by decide +kernel) (zW_t rfl ?_))
      have hz : zcan g f i w = (kd == 4) := zz _ rfl
      rw [hz]
      refine zW_if (fun h => ?_) (fun h => ?_) <;> refine zW_so ?_ <;> simp (disch := omega) only [zLT, zC] at h
      · subst h; rfl
      · rw [if_neg]; · rfl
        · simp [h]
    · refine zW_f (by decide +kernel) (zW_f (by decide +kernel) (zW_f (by decide +kernel) ?_))
      obtain ⟨r1, r2⟩ := hwo rfl
      refine zW_ob (z_ofHole (k := 3) hM h0 (by omega) (by omega)) ?_
      have hz : zcan g f i w = (w == ix (g (zha f i + 3))) := zz _ rfl
      rw [hz, r1]
      refine zW_if (fun h => ?_) (fun h => ?_) <;> refine zW_so ?_ <;> simp (disch := omega) only [zLT, zC] at h
      · rw [if_pos]; · rfl
        · simp only [beq_iff_eq]; rw [← r1]; exact h
      · rw [if_neg]; · rfl
        · simp only [beq_iff_eq]; rw [← r1]; exact h
  obtain ⟨r, e, q⟩ := this
  rw [e, q]
