def zDm (σ τ : Mem) : Prop := ∀ x c, ¬ (x = 383 ∧ c = 20) → x ≠ 394 → τ x c = σ x c
theorem zMG_d {σ τ : Mem} {g : Nat → Int32} (h : zMG σ g) (e : zDm σ τ) : zMG τ g := fun k hk => by rw [e _ _ (by omega) (by omega)]; exact h k hk
theorem z_drawsL {τ : Mem} {g : Nat → Int32} {f m nb : Nat} {z : Int32} {q2 q4 : Int32 × Mem} (hg : zBG g) (hM : zMG τ g) (hf : f < znF g) (hm : m < 4) (hnb : nb < 8) (h2 : q2.1 = nI f) (h4 : q4.1 = nI m) (hz : τ 383 20 = z) :
    zW (lp (sX12_drawsLine_56 383 q2 q4 (nI nb)) FU (nI 0, τ)) (fun υ => (∀ x c, ¬ (x = 383 ∧ (c = 20 ∨ c = 6 ∨ c = 13)) → x ≠ 394 → x ≠ 387 → x ≠ 389 → υ x c = τ x c) ∧ (((∀ k, k < znH g f → ∃ w, zdo g f z k = some w) ∧ zLn υ (zlc (zsi g f (fun k => (zdo g f z k).getD 0) nb m) (znH g f)))
      ∨ ((∃ k, k < znH g f ∧ zdo g f z k = none) ∧ zLn υ []))) := by
  have f5 : f < 5 := Nat.lt_of_lt_of_le hf hg.2.1.2
  have hFm := hg.2.2.2.2.1 f hf
  have h6 : znH g f ≤ 6 := hFm.1.2
  have hW : znW g ≤ 20 := hg.1.2
  have h6' : ix (g (zfa f)) ≤ 6 := hFm.1.2
  have en : g (zfa f) = nI (znH g f) := hFm.1.1
  refine zW_lp (fun i a => ∃ υ, a = (nI i, υ) ∧ zDm τ υ ∧ υ 383 20 = zdz g f z i ∧ ∀ k, k < i → υ 394 k = zoI (zdo g f z k)) (znH g f) ?_ (by unfold FU; omega) ⟨τ, rfl, fun _ _ _ _ => rfl, hz, fun k hk => absurd hk (by omega)⟩
  rintro i a hi ⟨υ, rfl, uf, uz, uw⟩
  have hMu := zMG_d hM uf
  unfold sX12_drawsLine_56
  dsimp only
  rw [h2]
  refine zW_ob (z_holes hMu f5) ?_
  refine zW_if (fun h => ?_) (fun h => ?_)
  · rw [en] at h
    simp (disch := omega) only [zC] at h
    have : i = znH g f := by omega
    subst this
    refine zW_oR ?_
    rw [h4]
    by_cases hall : ∀ k, k < znH g f → ∃ w, zdo g f z k = some w
    · obtain ⟨ω, o1, o2, o3⟩ := z_says (σ := υ) (R := 394) (fr := 0) (ws := fun k => (zdo g f z k).getD 0) hg hMu hf hnb hm zl_c.2.2.2.2.2.2.2.2.2.2.2.2.2.2.2.2.2.2.2.2.2.2.2.2.2.2.2.2.1 (by omega) (by omega) (by omega) (fun k hk => by
        obtain ⟨w, hw⟩ := hall k hk
        have q := zdo_in hw
        simp only [hw, Option.getD_some]
        refine ⟨q.1, q.2, ?_⟩
        rw [Nat.zero_add, uw k hk, hw]
        rfl)
      refine zW_ob (x := ω) (by rw [zLT.1]; exact o1) (zW_so ⟨fun x c p q r s => ?_, Or.inl ⟨hall, o2⟩⟩)
      rw [o3 x c (by omega) r s, uf x c (by omega) q]
    · have hex : ∃ k, k < znH g f ∧ zdo g f z k = none := by
        apply Classical.byContradiction
        intro hno
        apply hall
        intro k hk
        cases e : zdo g f z k with
        | none => exact absurd ⟨k, hk, e⟩ hno
        | some w => exact ⟨w, rfl⟩
      obtain ⟨k0, k1, k2⟩ := hex
      obtain ⟨ω, o1, o2, o3⟩ := z_saysN (σ := υ) (nb := nb) (m := m) (R := 394) (fr := 0) (x := nI f) hg hMu zl_c.2.2.2.2.2.2.2.2.2.2.2.2.2.2.2.2.2.2.2.2.2.2.2.2.2.2.2.2.1 (by omega) (by omega) (by omega) (Or.inr ⟨f, hf, rfl, fun k hk => by
        rw [Nat.zero_add, uw k hk]
        cases e : zdo g f z k with
        | none => exact Or.inl rfl
        | some w => exact Or.inr ⟨w, by have := (zdo_in e).1; omega, rfl⟩, k0, k1, by rw [Nat.zero_add, uw k0 k1, k2]; rfl⟩)
      refine zW_ob (x := ω) (by rw [zLT.1]; exact o1) (zW_so ⟨fun x c p q r s => ?_, Or.inr ⟨⟨k0, k1, k2⟩, o2⟩⟩)
      rw [o3 x c (by omega) r s, uf x c (by omega) q]
  · rw [en] at h
    simp (disch := omega) only [zC] at h
    have hil : i < znH g f := by omega
    obtain ⟨ll, l1, l2, l3⟩ := zHo_l (hFm.2.2.1 i hil)
    have hcl := zct_le (zcan g f i) (znW g)
    refine zW_ob (z_ofHole (k := 0) hMu f5 (by omega) (by omega)) ?_
    refine zW_jn (fun y => ∃ υ', y = (zoI (zdo g f z i), υ') ∧ zDm τ υ' ∧ υ' 383 20 = zdz g f z (i + 1) ∧ (∀ k, υ' 394 k = υ 394 k)) ?_ ?_
    · rintro y ⟨υ', rfl, yf, yz, yw⟩
      dsimp only
      refine zW_gd (by simp (disch := omega) only [Nat.reduceAdd, zl_c, zI]) ?_
      refine zW_bv (mw υ' 394 i (zoI (zdo g f z i))) (by simp (disch := omega) only [Nat.reduceAdd, zI]) ?_
      refine zW_oL ⟨hil, mw υ' 394 i (zoI (zdo g f z i)), by simp only [zLT, zI], fun x c p q => by simp (disch := omega) only [zM]; exact yf x c p q, by simp (disch := omega) only [zM]; exact yz, fun k hk => ?_⟩
      by_cases q : k = i
      · subst q; simp only [zM]
      · simp (disch := omega) only [zM]
        rw [yw]
        exact uw k (by omega)
    · intro kk hkk
      refine zW_if (fun h3 => ?_) (fun h3 => ?_)
      · rw [Nat.add_zero, l1] at h3
        simp (disch := omega) only [zLT, zC] at h3
        have hp : ix (g (zha f i)) = 112 := by rw [l2]; exact h3
        have hpp := zct_p hFm hil hp
        have hp3 : g (zha f i + 3) = nI (ix (g (zha f i + 3))) := by
          have := hFm.2.2.1 i hil
          rw [h3] at l1
          exact (zHo_p this l1).2.2.1.1
        refine zW_ob (z_ofHole (k := 3) hMu f5 (by omega) (by omega)) ?_
        refine hkk _ ⟨υ, ?_, uf, ?_, fun _ => rfl⟩
        · unfold zdo
          rw [if_pos hp, hpp.1]
          exact congrArg (fun x => (x, υ)) hp3
        · rw [uz, zdz_s, if_pos hp]
      · rw [Nat.add_zero, l1] at h3
        simp (disch := omega) only [zLT, zC] at h3
        have hp : ¬ ix (g (zha f i)) = 112 := by rw [l2]; exact h3
        refine zW_ob (z_able hg hMu hf hil) ?_
        refine zW_ob (z_draws (by omega)) ?_
        rw [uz]
        have fd : zDm τ (mw υ 383 20 (znx (zdz g f z i))) := fun x c p q => by simp (disch := omega) only [zM]; exact uf x c p q
        have hMd := zMG_d hM fd
        refine zW_ob (x := zoI (zdo g f z i)) ?_ (hkk _ ⟨mw υ 383 20 (znx (zdz g f z i)), rfl, fd, by simp only [zM]; rw [zdz_s, if_neg hp], fun k => by simp (disch := omega) only [zM]⟩)
        dsimp only
        unfold zdo
        by_cases h0 : zct (zcan g f i) (znW g) = 0
        · rw [if_pos h0, if_neg hp, if_pos h0, z_ableAtN hg hMd]
          rfl
        · have hlt := zdr_lt (z := znx (zdz g f z i)) (show 0 < zct (zcan g f i) (znW g) by omega)
          rw [if_neg h0, if_neg hp, if_neg h0, z_ableAt hg hMd hf hil (by omega)]
theorem z_drawsLine {σ : Mem} {g : Nat → Int32} {seed : Int32} (hg : zBG g) (hM : zMG σ g) (hF : 0 < znF g) :
    ∃ υ, fX12_drawsLine σ 383 seed = some υ ∧ (∀ x c, ¬ (x = 383 ∧ (c = 20 ∨ c = 6 ∨ c = 13)) → x ≠ 394 → x ≠ 387 → x ≠ 389 → υ x c = σ x c) ∧ (((∀ k, k < znH g (zdf g seed) → ∃ w, zdo g (zdf g seed) (zd5 seed) k = some w) ∧ zLn υ (zlc (zsi g (zdf g seed) (fun k => (zdo g (zdf g seed) (zd5 seed) k).getD 0) (zdn seed) (zdm seed)) (znH g (zdf g seed))))
      ∨ ((∃ k, k < znH g (zdf g seed) ∧ zdo g (zdf g seed) (zd5 seed) k = none) ∧ zLn υ [])) := by
  have hnF : znF g ≤ 5 := hg.2.1.2
  have hf : zdf g seed < znF g := zdr_lt hF
  have hmd : zdm seed < 4 := zdr_lt (by omega)
  have hnn := zdn_lt seed
  have hb0 := zdb_lt seed 0
  have hb1 := zdb_lt seed 1
  have hb2 := zdb_lt seed 2
  obtain ⟨Z1, Z2, Z3, Z4, n1, n2, n3, n4, n5, d1, d2, d3, d4, d5⟩ := zd_names g seed
  have d7 : zdb seed 0 + 2 * zdb seed 1 + 4 * zdb seed 2 = zdn seed := rfl
  generalize zdb seed 0 = B0 at *
  generalize zdb seed 1 = B1 at *
  generalize zdb seed 2 = B2 at *
  generalize zdn seed = NN' at *
  generalize zd5 seed = Z5 at *
  generalize zdf g seed = f at *
  generalize zdm seed = md at *
  have key : zW (fX12_drawsLine σ 383 seed) (fun υ => (∀ x c, ¬ (x = 383 ∧ (c = 20 ∨ c = 6 ∨ c = 13)) → x ≠ 394 → x ≠ 387 → x ≠ 389 → υ x c = σ x c) ∧ (((∀ k, k < znH g f → ∃ w, zdo g f Z5 k = some w) ∧ zLn υ (zlc (zsi g f (fun k => (zdo g f Z5 k).getD 0) NN' md) (znH g f)))
      ∨ ((∃ k, k < znH g f ∧ zdo g f Z5 k = none) ∧ zLn υ []))) := by
    unfold fX12_drawsLine
    refine zW_bv (mw σ 383 20 seed) rfl ?_
    refine zW_gd (by simp (disch := omega) only [zLT, Nat.reduceAdd, zl_c, zI]) ?_
    have step : ∀ (τ : Mem) (Z Z' : Int32) (n d : Nat), τ 383 20 = Z → znx Z = Z' → zdr Z' n = d → 0 < n → n < 10 → fX12_draws τ 383 (nI n) = some (nI d, mw τ 383 20 Z') := by
      intro τ Z Z' n d h1 h2 h3 h4 h5
      rw [z_draws (by omega), h1, h2, if_neg (by omega), h3]
    have m5 : (mw σ 383 20 seed) (383 + 1) (ix 1) = nI (znF g) := by
      simp (disch := omega) only [zLT, Nat.reduceAdd, zI, zM]
      exact (hM 1 (by omega)).trans hg.2.1.1
    rw [m5]
    refine zW_ob (step _ seed Z1 (znF g) f (by simp only [zM]) n1 d1 hF (by omega)) ?_
    dsimp only
    refine zW_ob (step _ Z1 Z2 4 md (by simp only [zM]) n2 d2 (by omega) (by omega)) ?_
    dsimp only
    refine zW_ob (step _ Z2 Z3 2 B0 (by simp only [zM]) n3 d3 (by omega) (by omega)) ?_
    dsimp only
    refine zW_ob (step _ Z3 Z4 2 B1 (by simp only [zM]) n4 d4 (by omega) (by omega)) ?_
    dsimp only
    refine zW_bv (nI (B0 + 2 ^ 1 * B1)) (z_or 1 B0 B1 (by omega) (by omega) hb1) ?_
    refine zW_ob (step _ Z4 Z5 2 B2 (by simp only [zM]) n5 d5 (by omega) (by omega)) ?_
    dsimp only
    refine zW_bv (nI NN') ?_ ?_
    · have := z_or 2 (B0 + 2 ^ 1 * B1) B2 (by omega) (by omega) hb2
      rw [show B0 + 2 ^ 1 * B1 + 2 ^ 2 * B2 = NN' by omega] at this
      exact this
    generalize hτ : mw (mw (mw (mw (mw (mw σ 383 20 seed) 383 20 Z1) 383 20 Z2) 383 20 Z3) 383 20 Z4) 383 20 Z5 = τ
    have tf : zDm σ τ := by
      subst hτ
      intro x c p q
      simp (disch := omega) only [zM]
    refine zW_mono (z_drawsL (z := Z5) (q2 := (nI f, mw (mw σ 383 20 seed) 383 20 Z1)) (q4 := (nI md, mw (mw (mw σ 383 20 seed) 383 20 Z1) 383 20 Z2)) hg (zMG_d hM tf) hf hmd hnn rfl rfl (by subst hτ; simp only [zM])) ?_
    rintro υ ⟨p1, p2⟩
    exact ⟨fun x c p q r s => by rw [p1 x c p q r s, tf x c (by omega) q], p2⟩
  exact key
