def zFm2 (σ τ : Mem) : Prop := ∀ x c, ¬ (x = 383 ∧ (c = 6 ∨ c = 17 ∨ c = 18)) → x ≠ 387 → x ≠ 392 → x ≠ 393 → τ x c = σ x c
theorem zFm2_t {σ τ υ : Mem} (h : zFm2 σ τ) (h2 : zFm2 τ υ) : zFm2 σ υ := fun x c p q r s => by rw [h2 x c p q r s, h x c p q r s]
theorem zFm2_a {σ τ : Mem} (h : zFa σ τ) : zFm2 σ τ := fun x c p q r s => h x c (by omega) q r s
theorem zRm_m {σ τ : Mem} {g : Nat → Int32} {l : List Nat} (h : zRm σ g l) (e : zFm2 σ τ) : zRm τ g l := by
  obtain ⟨h1, h2, ⟨⟨h3, h4⟩, h5, h6⟩, h7⟩ := h
  refine ⟨h1, fun k hk => ?_, ⟨⟨?_, fun k hk => ?_⟩, ?_, fun k hk => ?_⟩, h7⟩
  · rw [e _ _ (by omega) (by omega) (by omega) (by omega)]; exact h2 k hk
  · rw [e _ _ (by omega) (by omega) (by omega) (by omega)]; exact h3
  · rw [e _ _ (by omega) (by omega) (by omega) (by omega)]; exact h4 k hk
  · rw [e _ _ (by omega) (by omega) (by omega) (by omega)]; exact h5
  · rw [e _ _ (by omega) (by omega) (by omega) (by omega), e _ _ (by omega) (by omega) (by omega) (by omega)]; exact h6 k hk
/-- before the parts -/
def zQm (σ : Mem) (g : Nat → Int32) (l : List Nat) : Prop := zBG g ∧ zMG σ g ∧ zLn σ l ∧ l.length ≤ 70 ∧ ∀ k, k < l.length → l.getD k 0 < 256
theorem zQm_parts {σ : Mem} {g : Nat → Int32} {l : List Nat} (h : zQm σ g l) : ∃ τ, fX12_parts σ 383 = some τ ∧ zRm τ g l ∧ zPm σ τ := by
  obtain ⟨h1, h2, h3, h4, h5⟩ := h
  obtain ⟨τ, t1, t2, t3⟩ := z_parts h3 h4 h5
  exact ⟨τ, t1, ⟨h1, fun k hk => by rw [t3 _ _ (by omega) (by omega) (by omega)]; exact h2 k hk, t2, h4, h5⟩, t3⟩
/-- cells that the model's counting writes -/
def zMc (σ τ : Mem) : Prop := ∀ x c, ¬ (x = 383 ∧ (c = 6 ∨ c = 14 ∨ c = 17 ∨ c = 18)) → x ≠ 387 → x ≠ 390 → x ≠ 391 → x ≠ 392 → x ≠ 393 → τ x c = σ x c
theorem zcr_skip {g : Nat → Int32} {l : List Nat} {f : Nat} (h : znH g f ≠ (zps l).length) : zcr g l (4 * f + 4) = zcr g l (4 * f) := by
  rw [zcr_s, if_neg (by rw [show (4 * f + 3) / 4 = f by omega]; exact h), zcr_s, if_neg (by rw [show (4 * f + 2) / 4 = f by omega]; exact h), zcr_s, if_neg (by rw [show (4 * f + 1) / 4 = f by omega]; exact h), zcr_s, if_neg (by rw [show 4 * f / 4 = f by omega]; exact h)]
theorem zne_skip {g : Nat → Int32} {l : List Nat} {f : Nat} (h : znH g f ≠ (zps l).length) : zne g l (4 * f + 4) = zne g l (4 * f) := by
  rw [zne_s, if_neg (by rw [show (4 * f + 3) / 4 = f by omega]; exact h), zne_s, if_neg (by rw [show (4 * f + 2) / 4 = f by omega]; exact h), zne_s, if_neg (by rw [show (4 * f + 1) / 4 = f by omega]; exact h), zne_s, if_neg (by rw [show 4 * f / 4 = f by omega]; exact h)]
theorem z_nFR {σ : Mem} {g : Nat → Int32} {l : List Nat} (h : zRm σ g l) : σ (383 + 1) (ix 1) = nI (znF g) := by
  simp (disch := omega) only [zLT, Nat.reduceAdd, zI]
  exact (h.2.1 1 (by omega)).trans h.1.2.1.1
theorem z_counted {σ : Mem} {g : Nat → Int32} {l : List Nat} (h : zQm σ g l) :
    ∃ τ, fX12_counted σ 383 = some ((zcr g l (4 * znF g)).1, τ) ∧ τ 383 17 = (zcr g l (4 * znF g)).2.1 ∧ τ 383 18 = (zcr g l (4 * znF g)).2.2 ∧ zMc σ τ := by
  have hg := h.1
  have hnF : znF g ≤ 5 := hg.2.1.2
  have hm : zQm (mw (mw σ 383 17 (-nI 1)) 383 18 (-nI 1)) g l := ⟨h.1, fun k hk => by simp (disch := omega) only [zM]; exact h.2.1 k hk, ⟨by simp (disch := omega) only [zM]; exact h.2.2.1.1, fun k hk => by simp (disch := omega) only [zM]; exact h.2.2.1.2 k hk⟩, h.2.2.2⟩
  obtain ⟨τ0, s1, s2, s3⟩ := zQm_parts hm
  have key : zW (fX12_counted σ 383) (fun r => ∃ τ, r = ((zcr g l (4 * znF g)).1, τ) ∧ τ 383 17 = (zcr g l (4 * znF g)).2.1 ∧ τ 383 18 = (zcr g l (4 * znF g)).2.2 ∧ zMc σ τ) := by
    unfold fX12_counted
    refine zW_bv (mw σ 383 17 (-nI 1)) rfl (zW_bv (mw (mw σ 383 17 (-nI 1)) 383 18 (-nI 1)) rfl ?_)
    refine zW_ob s1 ?_
    refine zW_lp (fun f a => ∃ τ, a = (nI f, (zcr g l (4 * f)).1, τ) ∧ τ 383 17 = (zcr g l (4 * f)).2.1 ∧ τ 383 18 = (zcr g l (4 * f)).2.2 ∧ zFm2 τ0 τ) (znF g) ?_ (by unfold FU; omega)
      ⟨τ0, rfl, by rw [s3 _ _ (by omega) (by omega) (by omega)]; simp (disch := omega) only [zM]; rfl, by rw [s3 _ _ (by omega) (by omega) (by omega)]; simp (disch := omega) only [zM]; rfl, fun _ _ _ _ _ _ => rfl⟩
    rintro f a hf ⟨τ, rfl, t1, t2, tf⟩
    have ht := zRm_m s2 tf
    have e14 : τ 383 14 = nI (zps l).length := ht.2.2.1.2.1
    have hzl := zps_len (l := l)
    have hll := h.2.2.2.1
    unfold sX12_counted_18
    dsimp only
    refine zW_gd (by simp (disch := omega) only [zLT, Nat.reduceAdd, zl_c, zI]) ?_
    refine zW_if (fun q => ?_) (fun q => ?_)
    · rw [z_nFR ht] at q
      simp (disch := omega) only [zC] at q
      have : f = znF g := by omega
      subst this
      refine zW_oR (zW_so ⟨τ, rfl, t1, t2, fun x c p q r s t u => ?_⟩)
      rw [tf x c (by omega) (by omega) (by omega) (by omega), s3 x c (by omega) (by omega) (by omega)]
      simp (disch := omega) only [zM]
    · rw [z_nFR ht] at q
      simp (disch := omega) only [zC] at q
      have hfl : f < znF g := by omega
      have f5 : f < 5 := by omega
      have hFm := hg.2.2.2.2.1 f hfl
      have h6 : znH g f ≤ 6 := hFm.1.2
      have h6' : ix (g (zfa f)) ≤ 6 := hFm.1.2
      have en : g (zfa f) = nI (znH g f) := hFm.1.1
      refine zW_ob (z_holes ht.2.1 f5) ?_
      by_cases hN : znH g f = (zps l).length
      · refine zW_t (by rw [en, e14, hN]) ?_
        refine zW_lp (fun m a => ∃ υ, a = (nI m, (zcr g l (4 * f + m)).1, υ) ∧ υ 383 17 = (zcr g l (4 * f + m)).2.1 ∧ υ 383 18 = (zcr g l (4 * f + m)).2.2 ∧ zFm2 τ0 υ) 4 ?_ (by unfold FU; omega) ⟨τ, rfl, t1, t2, tf⟩
        rintro m a hm4 ⟨υ, rfl, u1, u2, uf⟩
        have hu := zRm_m s2 uf
        unfold sX12_counted_45
        dsimp only
        refine zW_if (fun r => ?_) (fun r => ?_)
        · simp (disch := omega) only [zLT, zC] at r
          have : m = 4 := by omega
          subst this
          refine zW_oR (zW_bv (nI (f + 1)) (by simp only [zLT, zI]) ?_)
          exact zW_oL ⟨hfl, υ, rfl, u1, u2, uf⟩
        · simp (disch := omega) only [zLT, zC] at r
          have hml : m < 4 := by omega
          obtain ⟨ω, o1, o2⟩ := z_byFrame (m := m) hu hfl hN hml
          refine zW_ob o1 ?_
          dsimp only
          have of' : zFm2 τ0 ω := zFm2_t uf (zFm2_a o2)
          have v1 : ω 383 17 = (zcr g l (4 * f + m)).2.1 := by rw [o2 _ _ (by omega) (by omega) (by omega) (by omega)]; exact u1
          have v2 : ω 383 18 = (zcr g l (4 * f + m)).2.2 := by rw [o2 _ _ (by omega) (by omega) (by omega) (by omega)]; exact u2
          have ez : zcr g l (4 * f + (m + 1)) = ((zcr g l (4 * f + m)).1 + nI (zWF g l f m), if ¬ nI (zWF g l f m) ≤ nI 0 ∧ (zcr g l (4 * f + m)).1 = nI 0 then (nI f, nI m) else (zcr g l (4 * f + m)).2) := by
            rw [show 4 * f + (m + 1) = 4 * f + m + 1 by omega, zcr_s, show (4 * f + m) / 4 = f by omega, show (4 * f + m) % 4 = m by omega, if_pos hN]
          refine zW_if (fun r1 => ?_) (fun r1 => ?_)
          · refine zW_oL ⟨hml, ω, ?_, ?_, ?_, of'⟩
            · rw [ez]; simp only [zLT, zI]
            · rw [ez]; simp only; rw [if_neg (fun q => q.1 r1)]; exact v1
            · rw [ez]; simp only; rw [if_neg (fun q => q.1 r1)]; exact v2
          · refine zW_if (fun r2 => ?_) (fun r2 => ?_)
            · refine zW_bv (mw ω 383 17 (nI f)) rfl (zW_bv (mw (mw ω 383 17 (nI f)) 383 18 (nI m)) rfl ?_)
              refine zW_oL ⟨hml, mw (mw ω 383 17 (nI f)) 383 18 (nI m), ?_, ?_, ?_, fun x c p q r s => by simp (disch := omega) only [zM]; exact of' x c p q r s⟩
              · rw [ez]; simp only [zLT, zI]
              · rw [ez]; simp only; rw [if_pos ⟨r1, r2⟩]; simp (disch := omega) only [zM]
              · rw [ez]; simp only; rw [if_pos ⟨r1, r2⟩]; simp (disch := omega) only [zM]
            · refine zW_oL ⟨hml, ω, ?_, ?_, ?_, of'⟩
              · rw [ez]; simp only [zLT, zI]
              · rw [ez]; simp only; rw [if_neg (fun q => r2 q.2)]; exact v1
              · rw [ez]; simp only; rw [if_neg (fun q => r2 q.2)]; exact v2
      · refine zW_f (by rw [en, e14]; simp (disch := omega) only [zC]; exact hN) ?_
        refine zW_oL ⟨hfl, τ, ?_, ?_, ?_, tf⟩
        · rw [show 4 * (f + 1) = 4 * f + 4 by omega, zcr_skip hN]; simp only [zLT, zI]
        · rw [show 4 * (f + 1) = 4 * f + 4 by omega, zcr_skip hN]; exact t1
        · rw [show 4 * (f + 1) = 4 * f + 4 by omega, zcr_skip hN]; exact t2
  obtain ⟨r, e, τ, rfl, q⟩ := key
  exact ⟨τ, e, q⟩
/-- near's loop -/
theorem z_nearLoop {τ0 : Mem} {g : Nat → Int32} {l : List Nat} {p1 : Int32} (s2 : zRm τ0 g l) :
    ∃ τ, lp (sX12_near_28 383 p1) FU (nI 0, -nI 1, nI 1000000, τ0) = some ((if p1 = nI 1 then (zne g l (4 * znF g)).2 else if (zne g l (4 * znF g)).2 = -nI 1 then -nI 1 else nI (zne g l (4 * znF g)).1), τ) ∧ zFm2 τ0 τ := by
  have hg := s2.1
  have hnF : znF g ≤ 5 := hg.2.1.2
  have key : zW (lp (sX12_near_28 383 p1) FU (nI 0, -nI 1, nI 1000000, τ0)) (fun r => ∃ τ, r = ((if p1 = nI 1 then (zne g l (4 * znF g)).2 else if (zne g l (4 * znF g)).2 = -nI 1 then -nI 1 else nI (zne g l (4 * znF g)).1), τ) ∧ zFm2 τ0 τ) := by
    refine zW_lp (fun f a => ∃ τ, a = (nI f, (zne g l (4 * f)).2, nI (zne g l (4 * f)).1, τ) ∧ zFm2 τ0 τ) (znF g) ?_ (by unfold FU; omega) ⟨τ0, rfl, fun _ _ _ _ _ _ => rfl⟩
    rintro f a hf ⟨τ, rfl, tf⟩
    have ht := zRm_m s2 tf
    have e14 : τ 383 14 = nI (zps l).length := ht.2.2.1.2.1
    have hzl := zps_len (l := l)
    have hll := s2.2.2.2.1
    unfold sX12_near_28
    dsimp only
    refine zW_gd (by simp (disch := omega) only [zLT, Nat.reduceAdd, zl_c, zI]) ?_
    refine zW_if (fun q => ?_) (fun q => ?_)
    · rw [z_nFR ht] at q
      simp (disch := omega) only [zC] at q
      have : f = znF g := by omega
      subst this
      refine zW_oR ?_
      refine zW_if (fun r => ?_) (fun r => ?_)
      · rw [zLT.2.1] at r
        exact zW_so ⟨τ, by rw [if_pos r], tf⟩
      · rw [zLT.2.1] at r
        rcases (zne_le g l (4 * znF g)).2 with e | ⟨f', hf', e⟩
        · refine zW_f (by rw [e]; decide +kernel) (zW_so ⟨τ, ?_, tf⟩)
          rw [if_neg r, e, if_pos rfl]
        · refine zW_t (by rw [e]; exact nI_pos' (by omega)) (zW_so ⟨τ, ?_, tf⟩)
          rw [if_neg r, e, if_neg]
          simp (disch := omega) only [zC]
          exact fun h => h
    · rw [z_nFR ht] at q
      simp (disch := omega) only [zC] at q
      have hfl : f < znF g := by omega
      have f5 : f < 5 := by omega
      have hFm := hg.2.2.2.2.1 f hfl
      have h6 : znH g f ≤ 6 := hFm.1.2
      have h6' : ix (g (zfa f)) ≤ 6 := hFm.1.2
      have en : g (zfa f) = nI (znH g f) := hFm.1.1
      refine zW_ob (z_holes ht.2.1 f5) ?_
      by_cases hN : znH g f = (zps l).length
      · refine zW_t (by rw [en, e14, hN]) ?_
        refine zW_lp (fun m a => ∃ υ, a = (nI m, (zne g l (4 * f + m)).2, nI (zne g l (4 * f + m)).1, υ) ∧ zFm2 τ0 υ) 4 ?_ (by unfold FU; omega) ⟨τ, rfl, tf⟩
        rintro m a hm4 ⟨υ, rfl, uf⟩
        have hu := zRm_m s2 uf
        unfold sX12_near_58
        dsimp only
        refine zW_if (fun r => ?_) (fun r => ?_)
        · simp (disch := omega) only [zLT, zC] at r
          have : m = 4 := by omega
          subst this
          refine zW_oR (zW_bv (nI (f + 1)) (by simp only [zLT, zI]) ?_)
          exact zW_oL ⟨hfl, υ, rfl, uf⟩
        · simp (disch := omega) only [zLT, zC] at r
          have hml : m < 4 := by omega
          obtain ⟨ω, o1, o2⟩ := z_byFrameF (m := m) hu hfl hN hml
          refine zW_ob o1 ?_
          dsimp only
          have of' : zFm2 τ0 ω := zFm2_t uf (zFm2_a o2)
          have hnl := (zne_le g l (4 * f + m)).1
          have hFb : zFF g l f m ≤ 9000000 := by
            unfold zFF
            have b1 := zsm_cap (F := zFP g l f) (n := znH g f) (c := 1000000) (fun i _ => by
              unfold zFP
              split
              · exact zFH_le
              · omega)
            have b2 := zsm_cap (F := zFQ g l f m) (n := 3) (c := 1000000) (fun i _ => by
              unfold zFQ
              split
              · exact zFG_le
              · omega)
            omega
          have ez : zne g l (4 * f + (m + 1)) = if zFF g l f m < (zne g l (4 * f + m)).1 then (zFF g l f m, nI f) else zne g l (4 * f + m) := by
            rw [show 4 * f + (m + 1) = 4 * f + m + 1 by omega, zne_s, show (4 * f + m) / 4 = f by omega, show (4 * f + m) % 4 = m by omega, if_pos hN]
          refine zW_if (fun r1 => ?_) (fun r1 => ?_)
          · simp (disch := omega) only [zC] at r1
            refine zW_oL ⟨hml, ω, ?_, of'⟩
            rw [ez, if_pos r1]; simp only [zLT, zI]
          · simp (disch := omega) only [zC] at r1
            refine zW_oL ⟨hml, ω, ?_, of'⟩
            rw [ez, if_neg r1]; simp only [zLT, zI]
      · refine zW_f (by rw [en, e14]; simp (disch := omega) only [zC]; exact hN) ?_
        refine zW_oL ⟨hfl, τ, ?_, tf⟩
        rw [show 4 * (f + 1) = 4 * f + 4 by omega, zne_skip hN]; simp only [zLT, zI]
  obtain ⟨r, e, τ, rfl, q⟩ := key
  exact ⟨τ, e, q⟩
