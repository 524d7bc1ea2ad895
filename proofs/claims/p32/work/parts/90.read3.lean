theorem zhr_le {g : Nat → Int32} {l : List Nat} {hs : List zHt} {p e : Nat} (h : zhr g l hs p = .inl e) : e ≤ p + 2 := by
  have pl : ∀ w q, zpl g p w q = .inl e → e ≤ p + 2 := by
    intro w q h
    unfold zpl at h
    split at h
    · cases h
    · cases h; omega
  unfold zhr at h
  split at h
  · split at h
    · cases h; omega
    · split at h
      · exact pl _ _ h
      · exact pl _ _ h
  · split at h
    · split at h
      · cases h; omega
      · split at h
        · cases h; omega
        · split at h
          · cases h
          · split at h
            · cases h; omega
            · cases h
    · cases h; omega
theorem z_rHole {g : Nat → Int32} {σ τ : Mem} {l : List Nat} {hs : List zHt} {p : Nat} (c : zXc g σ l) (h : zXs σ τ hs p) (h6 : hs.length ≤ 6) (hp : p < l.length) : zW (fX4_readHole τ 341 3 1) (fun r => (hs.length < 6 ∧ zXr g σ l hs p r) ∨ (hs.length = 6 ∧ r.1 = nI 0 ∧ zXp σ r.2 p)) := by
  obtain ⟨hg, hcb, ht, hl50⟩ := zXc_co c h.2.2.2.2
  have h1 := h.1
  have gb := zL_get ht hp
  unfold fX4_readHole
  rw [h1]
  refine zW_ob (x := nI (l.getD p 0)) (by rw [z_at ht zl_c.2.2.2.2.2.2.1 hl50 (by omega) (by omega), if_pos hp]) ?_
  have c6 : τ (341 + 1) 0 = nI hs.length := h.2.1
  by_cases hl : l.getD p 0 = 102 ∨ l.getD p 0 = 110 ∨ l.getD p 0 = 112 ∨ l.getD p 0 = 118
  rotate_left
  · have s : fX4_sortBy τ (nI (l.getD p 0)) = some (-1 : Int32) := by
      unfold fX4_sortBy
      rw [if_neg (by simp (disch := omega) only [zLT, zC]; omega), if_neg (by simp (disch := omega) only [zLT, zC]; omega), if_neg (by simp (disch := omega) only [zLT, zC]; omega), if_neg (by simp (disch := omega) only [zLT, zC]; omega)]
    refine zW_ob s (zW_t rfl (zW_so ?_))
    by_cases h6' : hs.length = 6
    · exact Or.inr ⟨h6', rfl, h1, h.2.2.2.2⟩
    · refine Or.inl ⟨by omega, Or.inr ⟨p, ?_, rfl, h1, h.2.2.2.2⟩⟩
      unfold zhr
      rw [if_neg (by omega), if_neg (by omega)]
  have s : fX4_sortBy τ (nI (l.getD p 0)) = some (nI (zso (l.getD p 0))) := by
    unfold fX4_sortBy
    rcases hl with q | q | q | q <;> rw [q] <;> rfl
  have sn : ¬ nI (zso (l.getD p 0)) = (-1 : Int32) := by
    rcases hl with q | q | q | q <;> rw [q] <;> decide +kernel
  have s3 : nI (zso (l.getD p 0)) = (3 : Int32) ↔ l.getD p 0 = 112 := by
    rcases hl with q | q | q | q <;> rw [q] <;> decide +kernel
  refine zW_ob s (zW_f sn (zW_if (fun q => ?_) (fun q => ?_)))
  rotate_left
  · rw [c6] at q
    simp (disch := omega) only [zLT, zC] at q
    exact zW_so (Or.inr ⟨by omega, rfl, h1, h.2.2.2.2⟩)
  rw [c6] at q
  simp (disch := omega) only [zLT, zC] at q
  refine zW_bv (mw τ 341 1 (nI (p + 1))) (by rw [zLT.2.1, zI.1]) (zW_if (fun q3 => ?_) (fun q3 => ?_))
  · obtain ⟨r, r1, r2⟩ := z_rPlain c (zXs_mv (q := p + 1) h) q hp (s3.mp q3)
    exact zW_ob r1 (zW_so (Or.inl ⟨q, r2⟩))
  · have : l.getD p 0 = 110 ∨ l.getD p 0 = 118 ∨ l.getD p 0 = 102 := by
      have : ¬ l.getD p 0 = 112 := fun e => q3 (s3.mpr e)
      omega
    obtain ⟨r, r1, r2⟩ := z_rGrouped c (zXs_mv (q := p + 1) h) q hp this
    exact zW_ob r1 (zW_so (Or.inl ⟨q, r2⟩))
theorem z_skip {g : Nat → Int32} {σ τ : Mem} {l : List Nat} {hs : List zHt} {p : Nat} (c : zXc g σ l) (h : zXs σ τ hs p) (hp : p ≤ l.length) : zW (fX4_skipBlanks τ 341 1) (fun υ => ∃ q, zXs σ υ hs q ∧ p ≤ q ∧ q ≤ l.length ∧ zRr g l hs p = zRr g l hs q ∧ (q = l.length ∨ ¬ (l.getD q 0 = 32 ∨ l.getD q 0 = 10))) := by
  have hl50 := c.2.2.2
  unfold fX4_skipBlanks
  refine zW_bv (nI p) h.1 ?_
  refine zW_lpm (fun a => ∃ q υ, a = (nI q, υ) ∧ p ≤ q ∧ q ≤ l.length ∧ zXs σ υ hs q ∧ zRr g l hs p = zRr g l hs q) (fun a => l.length - ix a.1) ?_ (by dsimp only; rw [zi_ix (by omega)]; unfold FU; omega) ⟨p, τ, rfl, Nat.le_refl _, hp, h, rfl⟩
  rintro a ⟨q, υ, rfl, q1, q2, q3, q4⟩
  obtain ⟨hg, hcb, ht, -⟩ := zXc_co c q3.2.2.2.2
  unfold sX4_skipBlanks_5
  dsimp only
  refine zW_if (fun e => ?_) (fun e => ?_)
  · rw [ht.1] at e
    simp (disch := omega) only [zC] at e
    exact zW_oR (zW_so ⟨q, q3, q1, q2, q4, Or.inl (by omega)⟩)
  rw [ht.1] at e
  simp (disch := omega) only [zC] at e
  have hq : q < l.length := by omega
  have gb := zL_get ht hq
  have at' : fX5_at υ 1 (nI q) = some (nI (l.getD q 0)) := by rw [z_at ht zl_c.2.2.2.2.2.2.1 hl50 (by omega) (by omega), if_pos hq]
  refine zW_ob at' ?_
  refine zW_jn (fun _ : Unit => l.getD q 0 = 32 ∨ l.getD q 0 = 10) (fun _ hb => ?_) (fun k hk => zW_if (fun e1 => hk _ (Or.inl ?_)) (fun e1 => zW_ob at' (zW_if (fun e2 => hk _ (Or.inr ?_)) (fun e2 => zW_oR (zW_so ⟨q, q3, q1, q2, q4, Or.inr ?_⟩)))))
  · refine zW_bv (mw υ 341 1 (nI (q + 1))) (by rw [zLT.2.1, zI.1]) (zW_bv (nI (q + 1)) (by rw [zLT.2.1, zI.1]) (zW_oL ⟨⟨q + 1, _, rfl, by omega, by omega, zXs_mv q3, by rw [q4]; exact zRr_blank hq hb⟩, ?_⟩))
    dsimp only
    rw [zi_ix (by omega), zi_ix (by omega)]
    omega
  · simp (disch := omega) only [zLT, zC] at e1
    exact e1
  · simp (disch := omega) only [zLT, zC] at e2
    exact e2
  · simp (disch := omega) only [zLT, zC] at e1 e2
    omega
theorem zwh_iff {hs : List zHt} : zwh hs = true ↔ ∀ gr, gr < 3 → zhG2 hs gr = true → zhN2 hs gr = true := by
  unfold zwh
  simp only [Bool.and_eq_true, Bool.or_eq_true, Bool.not_eq_true']
  constructor
  · rintro ⟨a, b, c⟩ gr hg q
    rcases (show gr = 0 ∨ gr = 1 ∨ gr = 2 by omega) with rfl | rfl | rfl
    · exact a.resolve_left (fun e => by rw [e] at q; cases q)
    · exact b.resolve_left (fun e => by rw [e] at q; cases q)
    · exact c.resolve_left (fun e => by rw [e] at q; cases q)
  · intro h
    have k : ∀ gr, gr < 3 → zhG2 hs gr = false ∨ zhN2 hs gr = true := fun gr hg => by
      cases hz : zhG2 hs gr with
      | false => exact Or.inl rfl
      | true => exact Or.inr (h gr hg hz)
    exact ⟨k 0 (by omega), k 1 (by omega), k 2 (by omega)⟩
theorem z_isWh {g : Nat → Int32} {σ τ : Mem} {hs : List zHt} {p : Nat} (h : zXs σ τ hs p) (hh : zhs g hs) : fX3_isWhole τ 342 = some (if hs.length ≠ 0 ∧ zwh hs = true then nI 1 else nI 0) := by
  refine zW_val ?_
  have h6 := hh.1
  unfold fX3_isWhole
  refine zW_lp (fun k a => k ≤ hs.length ∧ a = nI k ∧ ∀ i gr, i < k → gr < 3 → (hs.getD i zH0).2.1 = nI gr → zhN2 hs gr = true) hs.length ?_ (by unfold FU; omega) ⟨Nat.zero_le _, rfl, fun i gr hi => absurd hi (by omega)⟩
  rintro k a hk ⟨-, rfl, s⟩
  unfold sX3_isWhole_2
  rw [h.2.1]
  refine zW_if (fun q => ?_) (fun q => ?_)
  · simp (disch := omega) only [zC] at q
    have : k = hs.length := by omega
    subst this
    refine zW_oR (zW_if (fun q0 => zW_so ?_) (fun q0 => zW_so ?_))
    · simp (disch := omega) only [zLT, zC] at q0
      show nI 0 = _
      rw [if_neg (fun e => e.1 (by omega))]
    · simp (disch := omega) only [zLT, zC] at q0
      show nI 1 = _
      rw [if_pos]
      refine ⟨by omega, zwh_iff.mpr (fun gr hg q => ?_)⟩
      obtain ⟨i, i1, i2⟩ := zG2_iff.mp q
      exact s i gr i1 hg i2
  simp (disch := omega) only [zC] at q
  have hk2 : k < hs.length := by omega
  have gr : fX3_groupOf τ 342 (nI k) = some (hs.getD k zH0).2.1 := by
    refine zW_val ?_
    unfold fX3_groupOf
    have : fX3_has τ 342 (nI k) = some (nI 1) := by
      unfold fX3_has
      rw [h.2.1]
      simp (disch := omega) only [zLT, zC, if_neg, Nat.not_lt_zero, if_false]
    refine zW_ob this (zW_f zn01 (zW_gd (by simp (disch := omega) only [Nat.reduceAdd, zl_f, zI]) (zW_so ?_)))
    rw [zi_ix (by omega)]
    exact (h.2.2.1 k hk2).2.1
  refine zW_ob gr ?_
  rcases zHo_gr (hh.2.1 k hk2).1 with ⟨n, n1, n2⟩ | ⟨n2, -⟩
  · rw [n2]
    refine zW_f (by show ¬ nI n = -nI 1; simp (disch := omega) only [zC]; exact id) (zW_ob (by rw [gr, n2]) ?_)
    obtain ⟨x, x1, x2, x3⟩ := z_nounX h n1 h6
    refine zW_ob x1 (zW_if (fun e => zW_oR (zW_so ?_)) (fun e => zW_bv _ rfl (zW_oL ⟨hk2, by omega, by simp only [zLT, zI], fun i gr' hi hg he => ?_⟩)))
    · show nI 0 = _
      rw [if_neg]
      intro q2
      have := zwh_iff.mp q2.2 n n1 (zG2_iff.mpr ⟨k, hk2, n2⟩)
      exact x2 this e
    · by_cases hik : i = k
      · subst hik
        rw [n2] at he
        simp (disch := omega) only [zC] at he
        subst he
        cases hz : zhN2 hs n with
        | true => rfl
        | false => exact absurd (x3 hz) e
      · exact s i gr' (by omega) hg he
  · rw [n2]
    refine zW_t rfl (zW_bv _ rfl (zW_oL ⟨hk2, by omega, by simp only [zLT, zI], fun i gr' hi hg he => ?_⟩))
    by_cases hik : i = k
    · subst hik
      rw [n2] at he
      simp (disch := omega) only [zC] at he
    · exact s i gr' (by omega) hg he
/-- the class reads -/
def zXq (g : Nat → Int32) (σ : Mem) (l : List Nat) (r : Int32 × Mem) : Prop := (∃ e, zRr g l [] 0 = .inl e ∧ e ≤ 60 ∧ r.1 = nI e ∧ ∀ x c, ¬ (341 ≤ x ∧ x ≤ 347) → r.2 x c = σ x c) ∨ ∃ hs p, zRr g l [] 0 = .inr hs ∧ r.1 = -nI 1 ∧ zXs σ r.2 hs p ∧ zhs g hs ∧ hs.length ≠ 0 ∧ zwh hs = true
theorem z_read {g : Nat → Int32} {σ : Mem} {l : List Nat} (c : zXc g σ l) : zW (fX4_read σ 341 3 1) (zXq g σ l) := by
  have hg := c.1
  have hl50 := c.2.2.2
  unfold fX4_read
  obtain ⟨τ, t1, t2, t3⟩ := z_fillN (σ := mw σ 342 0 (nI 0)) (i := 347) (v := -nI 1) (zl_f.2.2.2.2.2.2) (by omega)
  refine zW_ob (x := τ) (by unfold fX3_clear; rw [zE_bnd]; show obd (fJ7_fill_53178 (mw σ 342 0 (nI 0)) 347 (-nI 1)) _ = _; rw [t1]; rfl) ?_
  have s0 : zXs σ (mw τ 341 1 (nI 0)) [] 0 := by
    refine ⟨by simp only [zM], by simp (disch := omega) only [zM]; rw [t3 _ _ (by omega)]; simp only [zM]; rfl, fun k hk => absurd hk (Nat.not_lt_zero k), fun gr hg => Or.inr ⟨rfl, by simp (disch := omega) only [zM]; exact t2 gr hg⟩, fun x k q => ?_⟩
    simp (disch := omega) only [zM]
    rw [t3 _ _ (by omega)]
    simp (disch := omega) only [zM]
  refine zW_bv (mw τ 341 1 (nI 0)) rfl ?_
  obtain ⟨υ, u1, q, u2, -, u3, u4, u5⟩ := z_skip c s0 (Nat.zero_le _)
  refine zW_ob u1 ?_
  have hs0 : zhs g [] := ⟨by simp, fun k hk => absurd hk (Nat.not_lt_zero k), fun i j hi => absurd hi (Nat.not_lt_zero i)⟩
  refine zW_lpm (fun a => ∃ hs p τ, a = (nI hs.length, τ) ∧ zXs σ τ hs p ∧ zhs g hs ∧ p ≤ l.length ∧ (p = l.length ∨ ¬ (l.getD p 0 = 32 ∨ l.getD p 0 = 10)) ∧ zRr g l [] 0 = zRr g l hs p) (fun a => l.length - ix (a.2 341 1)) ?_ (by dsimp only; unfold FU; omega) ⟨[], q, υ, rfl, u2, hs0, u3, u5, u4⟩
  rintro a ⟨hs, p, τ, rfl, r1, r2, r3, r4, r5⟩
  obtain ⟨-, hcb, ht, -⟩ := zXc_co c r1.2.2.2.2
  have h6 := r2.1
  unfold sX4_read_19
  dsimp only
  refine zW_jn (fun _ : Unit => p = l.length) (fun _ hp => ?_) (fun k hk => zW_f ?_ (zW_if (fun e => hk _ ?_) (fun e => ?_)))
  · refine zW_oR (zW_ob (z_isWh r1 r2) ?_)
    have e := r5.trans (zRr_end hp)
    by_cases hw : hs.length ≠ 0 ∧ zwh hs = true
    · rw [if_pos hw] at e ⊢
      exact zW_f zn01 (zW_so (Or.inr ⟨hs, p, e, rfl, r1, r2, hw.1, hw.2⟩))
    · rw [if_neg hw] at e ⊢
      exact zW_t rfl (zW_so (Or.inl ⟨l.length, e, by omega, ht.1, r1.2.2.2.2⟩))
  · simp (disch := omega) only [zLT, zC]; omega
  · rw [ht.1, r1.1] at e
    simp (disch := omega) only [zC] at e
    omega
  · rw [ht.1, r1.1] at e
    simp (disch := omega) only [zC] at e
    have hp : p < l.length := by omega
    have nb : ¬ (l.getD p 0 = 32 ∨ l.getD p 0 = 10) := r4.resolve_left (by omega)
    obtain ⟨⟨r, υ⟩, v1, v2⟩ := z_rHole c r1 h6 hp
    refine zW_ob v1 ?_
    rcases v2 with ⟨h6', ⟨h, p', w1, w2, w3⟩ | ⟨e, w1, w2, w3, w4⟩⟩ | ⟨h6', w2, w3, w4⟩
    · dsimp only at w2 w3 ⊢
      rw [w2]
      obtain ⟨p1, p2, -⟩ := zhr_ok hg w1
      obtain ⟨ω, o1, q', o2, o3, o4, o5, o6⟩ := z_skip c w3 p2
      refine zW_f zn01 (zW_ob o1 (zW_bv (nI (hs.length + 1)) (by rw [zLT.2.1, zI.1]) (zW_oL ⟨⟨hs ++ [h], q', ω, by rw [List.length_append, List.length_singleton], o2, zhs_app hg r2 h6' w1, o4, o6, ?_⟩, ?_⟩)))
      · rw [r5, zRr_hole hg hp nb (by omega) w1, o5]
      · dsimp only
        rw [o2.1, r1.1, zi_ix (by omega), zi_ix (by omega)]
        omega
    · dsimp only at w2 w3 w4 ⊢
      rw [w2]
      refine zW_t rfl (zW_oR (zW_so (Or.inl ⟨e, r5.trans (zRr_bad hp nb (by omega) w1), ?_, w3, w4⟩)))
      have := zhr_le w1
      omega
    · dsimp only at w2 w3 w4 ⊢
      rw [w2]
      exact zW_t rfl (zW_oR (zW_so (Or.inl ⟨p, r5.trans (zRr_full hp nb h6'), by omega, w3, w4⟩)))
