/-- words by their blanks -/
theorem z_words {σ : Mem} {i R : Nat} {l : List Nat} (h : zL σ i l) (hr : ln (i + 1) = R) (hl : l.length ≤ R) (hR : R < 1000) : fX5_words σ i = some (nI (zps l).length) := by
  have : zW (fX5_words σ i) (fun r => r = nI (zps l).length) := by
    unfold fX5_words
    refine zW_jn (fun y => y = nI (if l.length = 0 then 0 else 1)) ?_ ?_
    · rintro y rfl
      refine zW_lp (fun n s => n ≤ l.length ∧ s = (nI n, nI ((if l.length = 0 then 0 else 1) + (zpt l n).1.length))) l.length ?_ (by unfold FU; omega) ⟨Nat.zero_le _, by simp only [zLT, zpt, List.length_nil, Nat.add_zero]⟩
      rintro n x hn ⟨-, rfl⟩
      unfold sX5_words_15
      dsimp only
      refine zW_if (fun q => ?_) (fun q => ?_)
      · rw [h.1] at q
        simp (disch := omega) only [zC] at q
        have : n = l.length := by omega
        subst this
        refine zW_oR (zW_so ?_)
        show nI _ = nI _
        unfold zps
        split
        · rename_i e
          rw [e]; rfl
        · rw [List.length_append, List.length_singleton, Nat.add_comm]
      · rw [h.1] at q
        simp (disch := omega) only [zC] at q
        refine zW_ob (z_at h hr hl hR (by omega)) ?_
        have hc : n < l.length := by omega
        rw [if_pos hc]
        have g := zL_get h (k := n) hc
        refine zW_if (fun e => ?_) (fun e => ?_)
        · simp (disch := omega) only [zLT, zC] at e
          refine zW_bv _ rfl (zW_bv _ rfl (zW_oL ⟨by omega, by omega, ?_⟩))
          simp only [zLT, zI]
          rw [zpt, if_pos e, List.length_append, List.length_singleton, Nat.add_assoc]
        · simp (disch := omega) only [zLT, zC] at e
          refine zW_bv _ rfl (zW_bv _ rfl (zW_oL ⟨by omega, by omega, ?_⟩))
          simp only [zLT, zI, Nat.add_zero]
          rw [zpt, if_neg e]
    · intro k hk
      refine zW_if (fun q => ?_) (fun q => ?_)
      · rw [h.1] at q
        simp (disch := omega) only [zLT, zC] at q
        exact hk _ (by rw [if_pos q]; rfl)
      · rw [h.1] at q
        simp (disch := omega) only [zLT, zC] at q
        exact hk _ (by rw [if_neg q]; rfl)
  obtain ⟨r, e, h2⟩ := this
  rw [e, h2]
theorem z_op_count {σ : Mem} {g : Nat → Int32} (h : zIv σ g) (p1 : Int32) : zOp σ (fun σ => fX11_count σ 0 p1) (fun τ => fX12_count τ 383 p1) := by
  have hg := h.2.1
  by_cases h2 : p1 = (2 : Int32)
  · subst h2
    have t := ztt_ok hg
    have q := h.2.2.1.2.2.2.2.2.1
    obtain ⟨υ, u1, u2, u3⟩ := z_takesText hg h.1
    obtain ⟨ω, o1, o2, o3⟩ := zQm_parts (zQm_text hg h.1 u2 u3)
    refine zO_e (r := nI (zps (ztt g)).length) (τ := σ) (υ := ω) ?_ ?_ (zIv_fr h (zFr_trans (zFr_tx u3) (zFr_pm o3)))
    · refine zW_val ?_
      unfold fX11_count
      refine zW_f (by decide +kernel) (zW_f (by decide +kernel) (zW_t rfl ?_))
      refine zW_ob (z_words (i := 8) q (zl_c.2.2.2.2.1) (by omega) (by omega)) ?_
      exact zW_so rfl
    · refine zW_val ?_
      unfold fX12_count
      refine zW_t rfl (zW_ob u1 (zW_ob o1 (zW_so ?_)))
      rw [show ω 383 14 = nI (zps (ztt g)).length from o2.2.2.1.2.1]
  by_cases h3 : p1 = (3 : Int32)
  · subst h3
    obtain ⟨l, r, τ, l1, l2, t1, t2, t3, t4, -⟩ := z_deskBoth h
    have fr := zFr_sy t3
    obtain ⟨ω, o1, o2, o3⟩ := t4 τ (zMG_fr h.1 fr)
    refine zO_e (r := nI l.length) (τ := τ) (υ := ω) ?_ ?_ (zIv_fr h (zFr_trans fr (zFr_s o3)))
    · refine zW_val ?_
      unfold fX11_count
      refine zW_f (by decide +kernel) (zW_f (by decide +kernel) (zW_f (by decide +kernel) (zW_t rfl (zW_ob t1 (zW_so ?_)))))
      simp only [Nat.zero_add, Nat.reduceAdd]
      rw [t2.1]
    · refine zW_val ?_
      unfold fX12_count
      refine zW_f (by decide +kernel) (zW_bv _ rfl (zW_t rfl (zW_ob o1 ?_)))
      refine zW_f (by decide +kernel) (zW_f (by decide +kernel) (zW_t rfl (zW_so ?_)))
      rw [o2.1]
  have hx : ∀ r, (if p1 = (0 : Int32) then (some ((σ 3 1), σ)) else (if p1 = (1 : Int32) then (some ((σ 3 5), σ)) else (if p1 = (4 : Int32) then (some ((σ 1 1), σ)) else (some ((-2 : Int32), σ))))) = some (r, σ) → fX11_count σ 0 p1 = some (r, σ) := by
    intro r e
    unfold fX11_count
    rw [if_neg h2, if_neg h3]
    exact e
  have hm : ∀ r, (if p1 = (0 : Int32) then (some ((σ 384 0), σ)) else (if p1 = (1 : Int32) then (some ((σ 384 1), σ)) else (if p1 = (4 : Int32) then (some ((σ 383 4), σ)) else (some ((-2 : Int32), σ))))) = some (r, σ) → fX12_count σ 383 p1 = some (r, σ) := by
    intro r e
    unfold fX12_count
    rw [if_neg h2, zE_bnd, if_neg h3]
    dsimp only
    rw [if_neg h3, show inb (0 : Int32) (ln (383 + 1)) = true by decide +kernel, show inb (1 : Int32) (ln (383 + 1)) = true by decide +kernel]
    exact e
  have r0 : σ 3 1 = σ 384 0 := h.2.2.1.1.1.trans (h.1 0 (by omega)).symm
  have r1 : σ 3 5 = σ 384 1 := h.2.2.1.1.2.trans (h.1 1 (by omega)).symm
  have r4 : σ 1 1 = σ 383 4 := by
    obtain ⟨l, -, b, c, -⟩ := h.2.2.2.2.2.1
    rw [b.1, c]
  have : ∃ r, (if p1 = (0 : Int32) then (some ((σ 384 0), σ)) else (if p1 = (1 : Int32) then (some ((σ 384 1), σ)) else (if p1 = (4 : Int32) then (some ((σ 383 4), σ)) else (some ((-2 : Int32), σ))))) = some (r, σ) := by
    split
    · exact ⟨_, rfl⟩
    · split
      · exact ⟨_, rfl⟩
      · split
        · exact ⟨_, rfl⟩
        · exact ⟨_, rfl⟩
  obtain ⟨r, e⟩ := this
  exact zO_e (hx r (by rw [r0, r1, r4]; exact e)) (hm r e) h
