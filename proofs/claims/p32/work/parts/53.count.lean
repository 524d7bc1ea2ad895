def zcr (g : Nat → Int32) (l : List Nat) : Nat → Int32 × Int32 × Int32
  | 0 => (nI 0, -nI 1, -nI 1)
  | i + 1 => if znH g (i / 4) = (zps l).length then
      ((zcr g l i).1 + nI (zWF g l (i / 4) (i % 4)), if ¬ nI (zWF g l (i / 4) (i % 4)) ≤ nI 0 ∧ (zcr g l i).1 = nI 0 then (nI (i / 4), nI (i % 4)) else (zcr g l i).2)
    else zcr g l i
def zne (g : Nat → Int32) (l : List Nat) : Nat → Nat × Int32
  | 0 => (1000000, -nI 1)
  | i + 1 => if znH g (i / 4) = (zps l).length then (if zFF g l (i / 4) (i % 4) < (zne g l i).1 then (zFF g l (i / 4) (i % 4), nI (i / 4)) else zne g l i) else zne g l i
theorem zcr_s (g : Nat → Int32) (l : List Nat) (i : Nat) : zcr g l (i + 1) = if znH g (i / 4) = (zps l).length then
      ((zcr g l i).1 + nI (zWF g l (i / 4) (i % 4)), if ¬ nI (zWF g l (i / 4) (i % 4)) ≤ nI 0 ∧ (zcr g l i).1 = nI 0 then (nI (i / 4), nI (i % 4)) else (zcr g l i).2)
    else zcr g l i := rfl
theorem zne_s (g : Nat → Int32) (l : List Nat) (i : Nat) : zne g l (i + 1) = if znH g (i / 4) = (zps l).length then (if zFF g l (i / 4) (i % 4) < (zne g l i).1 then (zFF g l (i / 4) (i % 4), nI (i / 4)) else zne g l i) else zne g l i := rfl
theorem zne_le (g : Nat → Int32) (l : List Nat) (i : Nat) : (zne g l i).1 ≤ 1000000 ∧ ((zne g l i).2 = -nI 1 ∨ ∃ f, 4 * f < i ∧ (zne g l i).2 = nI f) := by
  induction i with
  | zero => exact ⟨Nat.le_refl _, Or.inl rfl⟩
  | succ i ih =>
    rw [zne_s]
    split
    · split
      · exact ⟨by simp only; omega, Or.inr ⟨i / 4, by omega, rfl⟩⟩
      · exact ⟨ih.1, ih.2.imp id (fun ⟨f, h, e⟩ => ⟨f, by omega, e⟩)⟩
    · exact ⟨ih.1, ih.2.imp id (fun ⟨f, h, e⟩ => ⟨f, by omega, e⟩)⟩
def zFy (σ τ : Mem) : Prop := ∀ x c, ¬ (x = 359 ∧ 5 ≤ c) → x ≠ 360 → x ≠ 361 → x ≠ 364 → τ x c = σ x c
theorem zFy_t {σ τ υ : Mem} (h : zFy σ τ) (h2 : zFy τ υ) : zFy σ υ := fun x c p q r s => by rw [h2 x c p q r s, h x c p q r s]
theorem zFy_w {σ τ : Mem} (h : zFw σ τ) : zFy σ τ := fun x c _ q r s => h x c q r s
theorem zRd_y {σ τ : Mem} {g : Nat → Int32} {i : Nat} {l : List Nat} (h : zRd σ g i l) (e : zFy σ τ) : zRd τ g i l := by
  obtain ⟨h1, h2, h3, h4, h5, h6, h7, h8⟩ := h
  refine ⟨h1, zCB_co h1 h2 (fun a k p q => e a k (by omega) (by omega) (by omega) (by omega)), zNG_co h3 (fun a k p q _ => e a k (by omega) (by omega) (by omega) (by omega)) (fun a k p q => e a k (by omega) (by omega) (by omega) (by omega)), zL_cb h4 (fun a k p q => e a k (by omega) (by omega) (by omega) (by omega)), h5, h6, h7, ?_, fun k k1 k2 => ?_⟩
  · rw [e _ _ (by omega) (by omega) (by omega) (by omega)]; exact h8.1
  · rw [e _ _ (by omega) (by omega) (by omega) (by omega), e _ _ (by omega) (by omega) (by omega) (by omega)]; exact h8.2 k k1 k2
/-- before the split -/
def zRq (σ : Mem) (g : Nat → Int32) (i : Nat) (l : List Nat) : Prop := zBG g ∧ zCB σ 3 g ∧ zNG σ ∧ zL σ i l ∧ i + 1 < 359 ∧ ln (i + 1) ≤ 80 ∧ l.length ≤ ln (i + 1)
theorem zRq_split {σ : Mem} {g : Nat → Int32} {i : Nat} {l : List Nat} (h : zRq σ g i l) : ∃ τ, fX6_split σ 359 i = some τ ∧ zRd τ g i l ∧ zPr σ τ := by
  obtain ⟨h1, h2, h3, h4, h5, h6, h7⟩ := h
  obtain ⟨τ, t1, t2, t3⟩ := z_split h4 rfl h7 h6 h5
  refine ⟨τ, t1, ⟨h1, zCB_co h1 h2 (fun a k p q => t3 a k (by omega) (by omega) (by omega)), zNG_co h3 (fun a k p q _ => t3 a k (by omega) (by omega) (by omega)) (fun a k p q => t3 a k (by omega) (by omega) (by omega)), zL_cb h4 (fun a k p q => t3 a k (by omega) (by omega) (by omega)), h5, h6, h7, t2⟩, t3⟩
/-- cells that the reader writes -/
def zRf (σ τ : Mem) : Prop := ∀ x c, ¬ (359 ≤ x ∧ x ≤ 364) → τ x c = σ x c
theorem z_countReadings {σ : Mem} {g : Nat → Int32} {l : List Nat} {i : Nat} (h : zRq σ g i l) :
    ∃ τ, fX6_countReadings σ 359 3 i = some τ ∧ τ 359 5 = (zcr g l (4 * znF g)).1 ∧ τ 359 6 = (zcr g l (4 * znF g)).2.1 ∧ τ 359 7 = (zcr g l (4 * znF g)).2.2 ∧ zRf σ τ := by
  have hg := h.1
  have hnF : znF g ≤ 5 := hg.2.1.2
  obtain ⟨τ0, s1, s2, s3⟩ := zRq_split h
  have key : zW (fX6_countReadings σ 359 3 i) (fun τ => τ 359 5 = (zcr g l (4 * znF g)).1 ∧ τ 359 6 = (zcr g l (4 * znF g)).2.1 ∧ τ 359 7 = (zcr g l (4 * znF g)).2.2 ∧ zRf σ τ) := by
    unfold fX6_countReadings
    refine zW_ob s1 ?_
    refine zW_bv (mw τ0 359 5 (nI 0)) rfl (zW_bv (mw (mw τ0 359 5 (nI 0)) 359 6 (-nI 1)) rfl (zW_bv (mw (mw (mw τ0 359 5 (nI 0)) 359 6 (-nI 1)) 359 7 (-nI 1)) rfl ?_))
    refine zW_lp (fun k a => ∃ τ, a = (nI k, τ) ∧ τ 359 5 = (zcr g l k).1 ∧ τ 359 6 = (zcr g l k).2.1 ∧ τ 359 7 = (zcr g l k).2.2 ∧ zFy τ0 τ) (4 * znF g) ?_ (by unfold FU; omega)
      ⟨_, rfl, by simp (disch := omega) only [zM]; rfl, by simp (disch := omega) only [zM]; rfl, by simp (disch := omega) only [zM]; rfl, fun x c p q r s => by simp (disch := omega) only [zM]⟩
    rintro k a hk ⟨τ, rfl, t5, t6, t7, tf⟩
    have ht := zRd_y s2 tf
    have hct := ht.2.1
    have e5 : τ 3 5 = nI (znF g) := hct.1.2.trans hg.2.1.1
    unfold sX6_countReadings_22
    dsimp only
    refine zW_if (fun q => ?_) (fun q => ?_)
    · rw [e5] at q
      simp only [zLT, zI] at q
      simp (disch := omega) only [zC] at q
      have : k = 4 * znF g := by omega
      subst this
      refine zW_oR (zW_so ⟨t5, t6, t7, fun x c p => ?_⟩)
      rw [tf x c (by omega) (by omega) (by omega) (by omega), s3 x c (by omega) (by omega) (by omega)]
    · rw [e5] at q
      simp only [zLT, zI] at q
      simp (disch := omega) only [zC] at q
      have hkl : k < 4 * znF g := by omega
      have hf : k / 4 < znF g := by omega
      obtain ⟨f5, hFm, hB, q3, q4, q5⟩ := zF_n hg hct hf
      refine zW_ob (x := some (142 + 6 * (k / 4))) (by simp (disch := omega) only [zLT, zI]; exact z_frameAt hg hct hf) ?_
      rw [zE_ocss]
      have e3 : τ 359 3 = nI (zps l).length := ht.2.2.2.2.2.2.2.1
      have hzl := zps_len (l := l)
      have hll := ht.2.2.2.2.2.2.1
      have hll2 := ht.2.2.2.2.2.1
      by_cases hN : znH g (k / 4) = (zps l).length
      · refine zW_t (by rw [q3, e3, hN]) ?_
        obtain ⟨υ, u1, u2⟩ := z_waysOfFrame (m := k % 4) ht hf hN (by omega)
        refine zW_ob (x := (nI (zWF g l (k / 4) (k % 4)), υ)) (by simp (disch := omega) only [zLT, zI]; exact u1) ?_
        dsimp only
        have v5 : υ 359 5 = (zcr g l k).1 := by rw [u2 _ _ (by omega) (by omega) (by omega)]; exact t5
        have v6 : υ 359 6 = (zcr g l k).2.1 := by rw [u2 _ _ (by omega) (by omega) (by omega)]; exact t6
        have v7 : υ 359 7 = (zcr g l k).2.2 := by rw [u2 _ _ (by omega) (by omega) (by omega)]; exact t7
        have vf : zFy τ0 υ := zFy_t tf (zFy_w u2)
        refine zW_jn (fun y : Mem => y 359 5 = (zcr g l k).1 ∧ y 359 6 = (zcr g l (k + 1)).2.1 ∧ y 359 7 = (zcr g l (k + 1)).2.2 ∧ zFy τ0 y) ?_ ?_
        · rintro y ⟨y5, y6, y7, yf⟩
          refine zW_bv (mw y 359 5 ((zcr g l (k + 1)).1)) (by rw [y5, zcr_s, if_pos hN]) ?_
          refine zW_oL ⟨hkl, _, by simp only [zLT, zI]; rfl, by simp only [zM], by simp (disch := omega) only [zM]; exact y6, by simp (disch := omega) only [zM]; exact y7, fun x c p q r s => by simp (disch := omega) only [zM]; exact yf x c p q r s⟩
        · intro kk hkk
          refine zW_if (fun r1 => ?_) (fun r1 => ?_)
          · refine hkk υ ⟨v5, ?_, ?_, vf⟩
            · rw [zcr_s, if_pos hN, v6]
              simp only
              rw [if_neg (fun q => q.1 r1)]
            · rw [zcr_s, if_pos hN, v7]
              simp only
              rw [if_neg (fun q => q.1 r1)]
          · refine zW_if (fun r2 => ?_) (fun r2 => ?_)
            · rw [v5] at r2
              refine zW_bv (mw υ 359 6 (nI (k / 4))) (by simp (disch := omega) only [zLT, zI]) ?_
              refine zW_bv (mw (mw υ 359 6 (nI (k / 4))) 359 7 (nI (k % 4))) (by simp (disch := omega) only [zLT, zI]) ?_
              refine hkk _ ⟨by simp (disch := omega) only [zM]; exact v5, ?_, ?_, fun x c p q r s => by simp (disch := omega) only [zM]; exact vf x c p q r s⟩
              · simp (disch := omega) only [zM]
                rw [zcr_s, if_pos hN]
                simp only
                rw [if_pos ⟨r1, r2⟩]
              · simp (disch := omega) only [zM]
                rw [zcr_s, if_pos hN]
                simp only
                rw [if_pos ⟨r1, r2⟩]
            · rw [v5] at r2
              refine hkk υ ⟨v5, ?_, ?_, vf⟩
              · rw [zcr_s, if_pos hN, v6]
                simp only
                rw [if_neg (fun q => r2 q.2)]
              · rw [zcr_s, if_pos hN, v7]
                simp only
                rw [if_neg (fun q => r2 q.2)]
      · refine zW_f (by rw [q3, e3]; simp (disch := omega) only [zC]; exact hN) ?_
        refine zW_oL ⟨hkl, τ, by simp only [zLT, zI], ?_⟩
        rw [zcr_s, if_neg hN]
        exact ⟨t5, t6, t7, tf⟩
  exact key
theorem z_findNearest {σ : Mem} {g : Nat → Int32} {l : List Nat} {i : Nat} (h : zRq σ g i l) :
    ∃ τ, fX6_findNearest σ 359 3 i = some τ ∧ τ 359 8 = (if (zne g l (4 * znF g)).2 = -nI 1 then -nI 1 else nI (zne g l (4 * znF g)).1) ∧ τ 359 9 = (zne g l (4 * znF g)).2 ∧ zRf σ τ := by
  have hg := h.1
  have hnF : znF g ≤ 5 := hg.2.1.2
  obtain ⟨τ0, s1, s2, s3⟩ := zRq_split h
  have key : zW (fX6_findNearest σ 359 3 i) (fun τ => τ 359 8 = (if (zne g l (4 * znF g)).2 = -nI 1 then -nI 1 else nI (zne g l (4 * znF g)).1) ∧ τ 359 9 = (zne g l (4 * znF g)).2 ∧ zRf σ τ) := by
    unfold fX6_findNearest
    refine zW_ob s1 ?_
    refine zW_bv (mw τ0 359 8 (nI 1000000)) rfl (zW_bv (mw (mw τ0 359 8 (nI 1000000)) 359 9 (-nI 1)) rfl ?_)
    refine zW_lp (fun k a => ∃ τ, a = (nI k, τ) ∧ τ 359 8 = nI (zne g l k).1 ∧ τ 359 9 = (zne g l k).2 ∧ zFy τ0 τ) (4 * znF g) ?_ (by unfold FU; omega)
      ⟨_, rfl, by simp (disch := omega) only [zM]; rfl, by simp (disch := omega) only [zM]; rfl, fun x c p q r s => by simp (disch := omega) only [zM]⟩
    rintro k a hk ⟨τ, rfl, t8, t9, tf⟩
    have ht := zRd_y s2 tf
    have hct := ht.2.1
    have e5 : τ 3 5 = nI (znF g) := hct.1.2.trans hg.2.1.1
    have hnl := (zne_le g l k).1
    unfold sX6_findNearest_18
    dsimp only
    refine zW_if (fun q => ?_) (fun q => ?_)
    · rw [e5] at q
      simp only [zLT, zI] at q
      simp (disch := omega) only [zC] at q
      have : k = 4 * znF g := by omega
      subst this
      refine zW_oR ?_
      refine zW_jn (fun y => y = (if (zne g l (4 * znF g)).2 = -nI 1 then -nI 1 else nI (zne g l (4 * znF g)).1)) ?_ ?_
      · rintro y rfl
        refine zW_so ⟨by simp only [zM], by simp (disch := omega) only [zM]; exact t9, fun x c p => ?_⟩
        simp (disch := omega) only [zM]
        rw [tf x c (by omega) (by omega) (by omega) (by omega), s3 x c (by omega) (by omega) (by omega)]
      · intro kk hkk
        refine zW_if (fun r => ?_) (fun r => ?_)
        · rw [t9, zLT.2.1] at r
          exact hkk _ (by rw [if_pos r]; rfl)
        · rw [t9, zLT.2.1] at r
          exact hkk _ (by rw [if_neg r]; exact t8)
    · rw [e5] at q
      simp only [zLT, zI] at q
      simp (disch := omega) only [zC] at q
      have hkl : k < 4 * znF g := by omega
      have hf : k / 4 < znF g := by omega
      obtain ⟨f5, hFm, hB, q3, q4, q5⟩ := zF_n hg hct hf
      refine zW_ob (x := some (142 + 6 * (k / 4))) (by simp (disch := omega) only [zLT, zI]; exact z_frameAt hg hct hf) ?_
      rw [zE_ocss]
      have e3 : τ 359 3 = nI (zps l).length := ht.2.2.2.2.2.2.2.1
      have hzl := zps_len (l := l)
      have hll := ht.2.2.2.2.2.2.1
      have hll2 := ht.2.2.2.2.2.1
      by_cases hN : znH g (k / 4) = (zps l).length
      · refine zW_t (by rw [q3, e3, hN]) ?_
        obtain ⟨υ, u1, u2⟩ := z_farFrame (m := k % 4) ht hf hN (by omega)
        refine zW_ob (x := (nI (zFF g l (k / 4) (k % 4)), υ)) (by simp (disch := omega) only [zLT, zI]; exact u1) ?_
        dsimp only
        have v8 : υ 359 8 = nI (zne g l k).1 := by rw [u2 _ _ (by omega) (by omega) (by omega)]; exact t8
        have v9 : υ 359 9 = (zne g l k).2 := by rw [u2 _ _ (by omega) (by omega) (by omega)]; exact t9
        have vf : zFy τ0 υ := zFy_t tf (zFy_w u2)
        have hFb : zFF g l (k / 4) (k % 4) ≤ 9000000 := by
          unfold zFF
          have b1 := zsm_cap (F := zFP g l (k / 4)) (n := znH g (k / 4)) (c := 1000000) (fun i _ => by
            unfold zFP
            split
            · exact zFH_le
            · omega)
          have b2 := zsm_cap (F := zFQ g l (k / 4) (k % 4)) (n := 3) (c := 1000000) (fun i _ => by
            unfold zFQ
            split
            · exact zFG_le
            · omega)
          omega
        refine zW_if (fun r1 => ?_) (fun r1 => ?_)
        · rw [v8] at r1
          simp (disch := omega) only [zC] at r1
          refine zW_oL ⟨hkl, υ, by simp only [zLT, zI], ?_⟩
          rw [zne_s, if_pos hN, if_neg (by omega)]
          exact ⟨v8, v9, vf⟩
        · rw [v8] at r1
          simp (disch := omega) only [zC] at r1
          refine zW_bv (mw υ 359 8 (nI (zFF g l (k / 4) (k % 4)))) rfl ?_
          refine zW_bv (mw (mw υ 359 8 (nI (zFF g l (k / 4) (k % 4)))) 359 9 (nI (k / 4))) (by simp (disch := omega) only [zLT, zI]) ?_
          refine zW_oL ⟨hkl, _, by simp only [zLT, zI]; rfl, ?_⟩
          rw [zne_s, if_pos hN, if_pos (by omega)]
          exact ⟨by simp (disch := omega) only [zM], by simp (disch := omega) only [zM], fun x c p q r s => by simp (disch := omega) only [zM]; exact vf x c p q r s⟩
      · refine zW_f (by rw [q3, e3]; simp (disch := omega) only [zC]; exact hN) ?_
        refine zW_oL ⟨hkl, τ, by simp only [zLT, zI], ?_⟩
        rw [zne_s, if_neg hN]
        exact ⟨t8, t9, tf⟩
  exact key
