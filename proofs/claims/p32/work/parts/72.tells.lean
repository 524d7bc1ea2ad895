theorem zpt_s (l : List Nat) (k : Nat) : zpt l (k + 1) = if l.getD k 0 = 32 then ((zpt l k).1 ++ [((zpt l k).2, k - (zpt l k).2)], k + 1) else zpt l k := rfl
theorem zpt_app {a b : List Nat} : ∀ {k : Nat}, k ≤ a.length → zpt (a ++ b) k = zpt a k := by
  intro k
  induction k with
  | zero => intro _; rfl
  | succ k ih =>
    intro hk
    have e : (a ++ b).getD k 0 = a.getD k 0 := by rw [zgd_app, if_pos (by omega)]
    rw [zpt_s, zpt_s, ih (by omega), e]
theorem zpt_no {a w : List Nat} (hw : ∀ k, k < w.length → w.getD k 0 ≠ 32) : ∀ {k : Nat}, k ≤ w.length → zpt (a ++ w) (a.length + k) = zpt a a.length := by
  intro k
  induction k with
  | zero => intro _; rw [Nat.add_zero]; exact zpt_app (Nat.le_refl _)
  | succ k ih =>
    intro hk
    show zpt (a ++ w) (a.length + k + 1) = _
    have e : (a ++ w).getD (a.length + k) 0 = w.getD k 0 := by rw [zgd_app, if_neg (by omega), show a.length + k - a.length = k by omega]
    rw [zpt_s, e, if_neg (hw k (by omega)), ih (by omega)]
theorem zps_one {w : List Nat} (hw : ∀ k, k < w.length → w.getD k 0 ≠ 32) (h1 : 1 ≤ w.length) : zps w = [(0, w.length)] := by
  have := zpt_no (a := []) hw (Nat.le_refl w.length)
  simp only [List.nil_append, List.length_nil, Nat.zero_add] at this
  unfold zps
  rw [if_neg (by omega), this]
  rfl
theorem zps_more {a w : List Nat} (ha : 1 ≤ a.length) (hw : ∀ k, k < w.length → w.getD k 0 ≠ 32) : zps (a ++ ([32] ++ w)) = zps a ++ [(a.length + 1, w.length)] := by
  have e1 : zpt (a ++ [32]) (a.length + 1) = (zps a, a.length + 1) := by
    have e : (a ++ [32]).getD a.length 0 = 32 := by rw [zgd_app, if_neg (by omega), Nat.sub_self]; rfl
    rw [zpt_s, e, if_pos rfl, zpt_app (Nat.le_refl _)]
    unfold zps
    rw [if_neg (by omega)]
  have e2 := zpt_no (a := a ++ [32]) hw (Nat.le_refl w.length)
  have el : (a ++ [32]).length = a.length + 1 := by simp
  rw [el, e1, List.append_assoc] at e2
  have el2 : (a ++ ([32] ++ w)).length = a.length + 1 + w.length := by simp; omega
  unfold zps
  rw [el2, if_neg (by omega), e2, if_neg (by omega)]
  simp only
  congr 2
  · unfold zps
    rw [if_neg (by omega)]
  · congr 2
    omega
/-- the words of what is said are the forms -/
theorem zps_zlc {F : Nat → List Nat} : ∀ {n : Nat}, (∀ k, k < n → zLs (F k) ∧ 1 ≤ (F k).length) → (zps (zlc F n)).length = n ∧ (1 ≤ n → 1 ≤ (zlc F n).length) ∧ ∀ k, k < n → ((zps (zlc F n)).getD k (0, 0)).2 = (F k).length := by
  intro n
  induction n with
  | zero => intro _; exact ⟨rfl, fun h => absurd h (by omega), fun k hk => absurd hk (by omega)⟩
  | succ n ih =>
    intro h
    obtain ⟨i1, i2, i3⟩ := ih (fun k hk => h k (by omega))
    obtain ⟨h1, h2⟩ := h n (by omega)
    have no : ∀ k, k < (F n).length → (F n).getD k 0 ≠ 32 := by
      intro k hk
      have e : (F n).getD k 0 = (F n)[k] := by simp [List.getD_eq_getElem?_getD, List.getElem?_eq_getElem hk]
      have := h1 _ (List.getElem_mem hk)
      rw [e]; omega
    by_cases h0 : n = 0
    · subst h0
      have e : zlc F 1 = F 0 := by
        show [] ++ ((if 0 = 0 then [] else [32]) ++ F 0) = F 0
        simp
      rw [e, zps_one no h2]
      refine ⟨rfl, fun _ => h2, fun k hk => ?_⟩
      have : k = 0 := by omega
      subst this
      rfl
    · have e : zlc F (n + 1) = zlc F n ++ ([32] ++ F n) := by
        show zlc F n ++ ((if n = 0 then [] else [32]) ++ F n) = _
        rw [if_neg h0]
      rw [e, zps_more (i2 (by omega)) no]
      refine ⟨by simp [i1], fun _ => by simp; omega, fun k hk => ?_⟩
      rw [zgp_app, i1]
      by_cases q : k < n
      · rw [if_pos q]; exact i3 k q
      · have : k = n := by omega
        subst this
        rw [if_neg q, Nat.sub_self]
        rfl
/-- the first that is otherwise -/
def zuk (n : Nat) (A : Nat → Int32) (W : Nat) (B : Nat → Nat) : Nat → Nat → Int32
  | 0, k => if n = W then -nI 1 else nI k
  | d + 1, k => if A k = nI (B k) then zuk n A W B d (k + 1) else nI k
def zuf (n : Nat) (A : Nat → Int32) (W : Nat) (B : Nat → Nat) : Int32 := zuk n A W B (min n W) 0
theorem zuk_s (n : Nat) (A : Nat → Int32) (W : Nat) (B : Nat → Nat) (d k : Nat) : zuk n A W B (d + 1) k = if A k = nI (B k) then zuk n A W B d (k + 1) else nI k := rfl
theorem z_first {σ : Mem} {t n W : Nat} {B : Nat → Nat} (ht : t < 4) (hn : n ≤ 40) (hW : W ≤ 6) (h1 : σ (367 + 2 * t) 1 = nI n) (h2 : σ 350 3 = nI W) (h3 : ∀ k, k < W → σ 355 k = nI (B k)) : fX11_firstOtherwise σ 0 (367 + 2 * t) = some (zuf n (fun k => σ (368 + 2 * t) k) W B) := by
  refine zW_val ?_
  unfold fX11_firstOtherwise
  simp only [Nat.zero_add]
  refine zW_bv (nI (min n W)) (by rw [h1, h2, zi_min (by omega) (by omega)]) ?_
  refine zW_lp (fun k a => a = nI k ∧ k ≤ min n W ∧ zuf n (fun k => σ (368 + 2 * t) k) W B = zuk n (fun k => σ (368 + 2 * t) k) W B (min n W - k) k) (min n W) ?_ (by unfold FU; omega) ⟨rfl, Nat.zero_le _, rfl⟩
  rintro k a hk ⟨rfl, -, e⟩
  unfold sX11_firstOtherwise_17
  simp only [Nat.zero_add]
  refine zW_if (fun q => ?_) (fun q => ?_)
  · simp (disch := omega) only [zC] at q
    have : k = min n W := by omega
    subst this
    rw [Nat.sub_self] at e
    refine zW_oR (zW_if (fun r => zW_so ?_) (fun r => zW_so ?_))
    · rw [h1, h2] at r
      simp (disch := omega) only [zC] at r
      rw [zS_inr, e]
      unfold zuk
      rw [if_pos r]
      rfl
    · rw [h1, h2] at r
      simp (disch := omega) only [zC] at r
      rw [zS_inr, e]
      unfold zuk
      rw [if_neg r]
  · simp (disch := omega) only [zC] at q
    have hkm : k < min n W := by omega
    rw [show min n W - k = (min n W - (k + 1)) + 1 by omega, zuk_s] at e
    refine zW_ob (x := σ (368 + 2 * t) k) ?_ ?_
    · refine zW_val ?_
      unfold fX7_at
      refine zW_ob (z_run (b := 1) h1 hn (by omega)) (zW_f zn01 ?_)
      refine zW_gd (by simp (disch := omega) only [zl_t, zI]) (zW_so ?_)
      rw [zi_ix (by omega), show 367 + 2 * t + 1 = 368 + 2 * t by omega]
    refine zW_ob (x := nI (B k)) ?_ ?_
    · refine zW_val ?_
      unfold fX8_lengthOf
      rw [h2]
      refine zW_ob (z_below (by omega) (by omega)) (zW_f zn01 (zW_f (by simp (disch := omega) only [zLT, zC]; omega) ?_))
      refine zW_gd (by simp (disch := omega) only [Nat.reduceAdd, zl_c, zI]) (zW_so ?_)
      rw [zi_ix (by omega)]
      exact h3 k (by omega)
    refine zW_if (fun r => ?_) (fun r => ?_)
    · have e' : (fun k => σ (368 + 2 * t) k) k = nI (B k) := r
      rw [if_pos e'] at e
      exact zW_oL ⟨hkm, by simp only [zLT, zI], hkm, e⟩
    · have e' : ¬ (fun k => σ (368 + 2 * t) k) k = nI (B k) := r
      rw [if_neg e'] at e
      exact zW_oR (zW_so e.symm)
theorem z_unlike {σ : Mem} {t n : Nat} {l : List Nat} {A : Nat → Int32} (ht : t < 4) (hn : n ≤ 40) (hl : zLn σ l) (hll : l.length ≤ 66) (hb : ∀ b, b ∈ l → b < 256) (h1 : σ 399 t = nI n) (h2 : ∀ k, k < n → σ 400 (40 * t + k) = A k) :
    ∃ τ, fX12_unlike σ 383 (nI t) = some (zuf n A (zps l).length (fun k => ((zps l).getD k (0, 0)).2), τ) ∧ zPm σ τ := by
  obtain ⟨τ, t1, t2, t3⟩ := z_parts hl (by omega) (zgdI hb)
  have hzl := zps_len (l := l)
  generalize hW : (zps l).length = W at *
  generalize hB : (fun k => ((zps l).getD k (0, 0)).2) = B
  have hBk : ∀ k, ((zps l).getD k (0, 0)).2 = B k := fun k => by rw [← hB]
  have h1' : τ 399 t = nI n := by rw [t3 _ _ (by omega) (by omega) (by omega)]; exact h1
  have h14 : τ 383 14 = nI W := by rw [t2.2.1, hW]
  have key : zW (fX12_unlike σ 383 (nI t)) (fun r => r = (zuf n A W B, τ)) := by
    unfold fX12_unlike
    refine zW_ob t1 ?_
    refine zW_lp (fun k a => a = nI k ∧ k ≤ min n W ∧ zuf n A W B = zuk n A W B (min n W - k) k) (min n W) ?_ (by unfold FU; omega) ⟨rfl, Nat.zero_le _, rfl⟩
    rintro k a hk ⟨rfl, -, e⟩
    unfold sX12_unlike_6
    have g16 : inb (nI t) (ln (383 + 16)) = true := by simp (disch := omega) only [Nat.reduceAdd, zl_c, zI]
    have r16 : τ (383 + 16) (ix (nI t)) = nI n := by rw [zi_ix (by omega)]; exact h1'
    refine zW_gd g16 ?_
    refine zW_jn (fun _ => (k = min n W) ∨ (k < min n W ∧ ¬ A k = nI (B k))) ?_ ?_
    · rintro - hc
      refine zW_oR (zW_gd g16 ?_)
      rw [r16, h14]
      rcases hc with hc | ⟨hc, hne⟩
      · rw [hc, Nat.sub_self] at e
        refine zW_if (fun q => ?_) (fun q => zW_so ?_)
        · simp (disch := omega) only [zC] at q
          refine zW_if (fun q' => zW_so ?_) (fun q' => zW_so ?_)
          · simp (disch := omega) only [zC] at q'
            rw [zS_inr, e]
            unfold zuk
            rw [if_pos (by omega)]
            rfl
          · simp (disch := omega) only [zC] at q'
            rw [zS_inr, e]
            unfold zuk
            rw [if_neg (by omega), hc]
        · simp (disch := omega) only [zC] at q
          rw [zS_inr, e]
          unfold zuk
          rw [if_neg (by omega), hc]
      · rw [show min n W - k = (min n W - (k + 1)) + 1 by omega, zuk_s, if_neg hne] at e
        refine zW_f (by simp (disch := omega) only [zC]; omega) (zW_so ?_)
        rw [zS_inr, e]
    · intro kk hkk
      refine zW_if (fun q => ?_) (fun q => ?_)
      · rw [r16] at q
        simp (disch := omega) only [zC] at q
        exact hkk () (Or.inl (by omega))
      · rw [r16] at q
        simp (disch := omega) only [zC] at q
        refine zW_if (fun q' => ?_) (fun q' => ?_)
        · rw [h14] at q'
          simp (disch := omega) only [zC] at q'
          exact hkk () (Or.inl (by omega))
        · rw [h14] at q'
          simp (disch := omega) only [zC] at q'
          obtain ⟨b1, b2⟩ := t2.2.2 k (by omega)
          have hok := zps_ok (l := l) (i := k) (by omega)
          refine zW_gd (by simp (disch := omega) only [zLT, Nat.reduceAdd, zl_c, zI]) (zW_gd (by simp (disch := omega) only [Nat.reduceAdd, zl_c, zI]) (zW_gd (by simp (disch := omega) only [Nat.reduceAdd, zl_c, zI]) ?_))
          have v1 : τ (383 + 17) (ix (((40 : Int32) * nI t) + nI k)) = A k := by
            simp (disch := omega) only [zLT, Nat.reduceAdd, zI]
            rw [t3 _ _ (by omega) (by omega) (by omega)]
            exact h2 k (by omega)
          have v2 : τ (383 + 8) (ix (nI k)) - τ (383 + 7) (ix (nI k)) = nI (B k) := by
            simp (disch := omega) only [Nat.reduceAdd, zI, b1, b2]
            rw [← hBk]
            congr 1; omega
          rw [v1, v2]
          refine zW_if (fun r => ?_) (fun r => hkk () (Or.inr ⟨by omega, r⟩))
          rw [show min n W - k = (min n W - (k + 1)) + 1 by omega, zuk_s, if_pos r] at e
          exact zW_oL ⟨by omega, by simp only [zLT, zI], by omega, e⟩
  obtain ⟨r, e, rfl⟩ := key
  exact ⟨τ, e, t3⟩
