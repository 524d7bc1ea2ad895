def zjoin (a b : List Nat) : List Nat := if zV (a.getD (a.length - 1) 0) && zV (b.getD 0 0) then a.take (a.length - 1) ++ b else a ++ b
theorem z_clear {σ : Mem} {i : Nat} : fX5_clear σ i = some (mw σ i 1 (nI 0)) := rfl
theorem z_loopadd {i j R S : Nat} {b : List Nat} (hij : i + 1 < j ∨ j + 1 < i) (hr : ln (i + 1) = R) (hs : ln (j + 1) = S) (hR : R < 1000) (hbS : b.length ≤ S) (hS : S < 1000) {σ : Mem} {a : List Nat} (ha : zL σ i a) (hb : zL σ j b) (hab : a.length + b.length ≤ R) :
    ∃ τ, lp (sX5_join_39 i j) FU (nI 0, σ) = some τ ∧ zL τ i (a ++ b) ∧ ∀ x c, x ≠ i → x ≠ i + 1 → τ x c = σ x c := by
  refine zW_lp (fun n s => n ≤ b.length ∧ s.1 = nI n ∧ zL s.2 i (a ++ b.take n) ∧ ∀ x c, x ≠ i → x ≠ i + 1 → s.2 x c = σ x c) b.length ?_ (by unfold FU; omega) ⟨Nat.zero_le _, rfl, by simpa using ha, fun _ _ _ _ => rfl⟩
  rintro n ⟨x, τ⟩ hn ⟨-, hx, h1, h2⟩
  simp only at hx h1 h2
  subst hx
  have hbτ : zL τ j b := zL_cb hb (fun p q u v => h2 p q (by omega) (by omega))
  unfold sX5_join_39
  by_cases hc : n < b.length
  · have hl : (a ++ b.take n).length = a.length + n := by simp; omega
    obtain ⟨υ, e, h3, h4⟩ := z_add (i := i) (R := R) h1 hr (by omega) hR (zL_get hb hc)
    simp (disch := omega) only [zLT, zC, zI, zE, hbτ.1, if_neg, z_at hbτ hs hbS hS, if_pos hc, e]
    refine zW_some.mpr ⟨hc, hc, rfl, ?_, fun p q u v => (h4 p q u v).trans (h2 p q u v)⟩
    have : a ++ b.take (n + 1) = a ++ b.take n ++ [b.getD n 0] := by
      rw [List.take_succ, List.append_assoc]
      simp [List.getD_eq_getElem?_getD, List.getElem?_eq_getElem hc]
    rw [this]
    exact h3
  · have : n = b.length := by omega
    subst this
    simp (disch := omega) only [zLT, zC, zI, zE, hbτ.1, if_pos]
    exact zW_some.mpr ⟨by simpa using h1, h2⟩
theorem z_join {i j R S : Nat} {b : List Nat} (hij : i + 1 < j ∨ j + 1 < i) (hr : ln (i + 1) = R) (hs : ln (j + 1) = S) (hR : R < 1000) (hbS : b.length ≤ S) (hS : S < 1000) {σ : Mem} {a : List Nat} (ha : zL σ i a) (hb : zL σ j b) (hab : a.length + b.length ≤ R) :
    ∃ τ, fX5_join σ i j = some τ ∧ zL τ i (zjoin a b) ∧ ∀ x c, x ≠ i → x ≠ i + 1 → τ x c = σ x c := by
  have hV0 : zV 0 = false := rfl
  have key : ∀ a', zL σ i a' → a'.length + b.length ≤ R → ∃ τ, lp (sX5_join_39 i j) FU (nI 0, σ) = some τ ∧ zL τ i (a' ++ b) ∧ ∀ x c, x ≠ i → x ≠ i + 1 → τ x c = σ x c := fun a' p q => z_loopadd hij hr hs hR hbS hS p hb q
  unfold fX5_join
  rcases Nat.eq_zero_or_pos a.length with h0 | h0
  · have ea : a = [] := List.eq_nil_of_length_eq_zero h0
    subst ea
    have e1 : fX5_at σ i (σ i 1 - nI 1) = some (-nI 1) := by
      rw [ha.1]
      exact z_at_neg (by decide +kernel)
    simp only [zLT, e1, zE, z_vowN, if_true]
    have : zjoin [] b = [] ++ b := by unfold zjoin; simp [hV0]
    rw [this]
    exact key [] ha hab
  · have e1 : fX5_at σ i (σ i 1 - nI 1) = some (nI (a.getD (a.length - 1) 0)) := by
      rw [ha.1]
      simp (disch := omega) only [zLT, zI]
      rw [z_at ha hr (by omega) hR (by omega), if_pos (by omega)]
    have g1 := zL_get ha (k := a.length - 1) (by omega)
    simp only [zLT, e1, zE]
    rw [z_vow (by omega)]
    simp only [zE]
    cases hv : zV (a.getD (a.length - 1) 0) with
    | false =>
      simp only [Bool.false_eq_true, if_false, if_true]
      have : zjoin a b = a ++ b := by unfold zjoin; rw [hv]; rfl
      rw [this]
      exact key a ha hab
    | true =>
      have e01 : ¬ (nI 1 = nI 0) := by decide +kernel
      simp only [if_true, e01, if_false]
      rcases Nat.eq_zero_or_pos b.length with hb0 | hb0
      · have eb : b = [] := List.eq_nil_of_length_eq_zero hb0
        subst eb
        rw [z_at hb hs hbS hS (by omega), if_neg (by simp)]
        simp only [zE, z_vowN, if_true]
        have : zjoin a [] = a ++ [] := by unfold zjoin; simp [hV0]
        rw [this]
        exact key a ha hab
      · rw [z_at hb hs hbS hS (by omega), if_pos hb0]
        have g2 := zL_get hb (k := 0) (by omega)
        simp only [zE]
        rw [z_vow (by omega)]
        simp only [zE]
        cases hw : zV (b.getD 0 0) with
        | false =>
          simp only [Bool.false_eq_true, if_false, if_true]
          have : zjoin a b = a ++ b := by unfold zjoin; rw [hw, Bool.and_false]; rfl
          rw [this]
          exact key a ha hab
        | true =>
          simp only [if_true, e01, if_false]
          have ej : zjoin a b = a.take (a.length - 1) ++ b := by unfold zjoin; rw [hv, hw]; rfl
          rw [ej, ha.1, zi_sub (by omega)]
          have hL : (a.take (a.length - 1)).length = a.length - 1 := by simp
          have ha' : zL (mw σ i 1 (nI (a.length - 1))) i (a.take (a.length - 1)) := by
            refine ⟨?_, fun k hk => ?_, fun x hx => ha.2.2 x (List.mem_of_mem_take hx)⟩
            · simp only [zM, hL]
            · rw [zgd_take, if_pos (by omega)]
              simp (disch := omega) only [zM]
              exact ha.2.1 k (by omega)
          have hb' : zL (mw σ i 1 (nI (a.length - 1))) j b := zL_cb hb (fun p q u v => by simp (disch := omega) only [zM])
          obtain ⟨τ, e, h1, h2⟩ := z_loopadd hij hr hs hR hbS hS ha' hb' (by omega)
          exact ⟨τ, e, h1, fun x c u v => by rw [h2 x c u v]; simp (disch := omega) only [zM]⟩
theorem z_become {i j R S : Nat} (hij : i + 1 < j ∨ j + 1 < i) (hr : ln (i + 1) = R) (hs : ln (j + 1) = S) (hR : R < 1000) (hS : S < 1000) {σ : Mem} {b : List Nat} (hb : zL σ j b) (hbS : b.length ≤ S) (hbR : b.length ≤ R) :
    ∃ τ, fX5_become σ i j = some τ ∧ zL τ i b ∧ ∀ x c, x ≠ i → x ≠ i + 1 → τ x c = σ x c := by
  unfold fX5_become
  simp (disch := omega) only [zLT, hb.1, hr, hs, zI, zM, zE]
  refine ⟨_, rfl, ⟨?_, ?_, hb.2.2⟩, ?_⟩
  · simp (disch := omega) only [zM]
    rw [Nat.min_eq_left hbR]
  · intro k hk
    simp (disch := omega) only [zM]
    rw [show 0 + (k - 0) = k by omega]
    exact hb.2.1 k hk
  · intro x c h1 h2
    simp (disch := omega) only [zM]
def zlt (n : Nat) : Bool := decide (97 ≤ n) && decide (n ≤ 122)
theorem z_isLetter {σ : Mem} {n : Nat} (h : n < 2 ^ 31) : fX5_isLetter σ (nI n) = some (if zlt n then nI 1 else nI 0) := by
  unfold fX5_isLetter zlt
  simp (disch := omega) only [zLT, zC]
  by_cases h1 : n < 97
  · rw [if_pos h1, if_neg]; simp; omega
  · by_cases h2 : 122 < n
    · rw [if_neg h1, if_pos h2, if_neg]; simp; omega
    · rw [if_neg h1, if_neg h2, if_pos]; simp; omega
theorem z_isLetterN {σ : Mem} : fX5_isLetter σ (-nI 1) = some (nI 0) := by
  unfold fX5_isLetter
  decide +kernel
theorem z_allLetters {σ : Mem} {i R : Nat} {l : List Nat} (h : zL σ i l) (hr : ln (i + 1) = R) (hl : l.length ≤ R) (hR : R < 1000) : fX5_isAllLetters σ i = some (if (∀ k, k < l.length → zlt (l.getD k 0) = true) then nI 1 else nI 0) := by
  have : zW (fX5_isAllLetters σ i) (fun r => r = if (∀ k, k < l.length → zlt (l.getD k 0) = true) then nI 1 else nI 0) := by
    unfold fX5_isAllLetters
    refine zW_lp (fun n s => s = nI n ∧ ∀ k, k < n → zlt (l.getD k 0) = true) l.length ?_ (by unfold FU; omega) ⟨rfl, by simp⟩
    rintro n x hn ⟨hx, h1⟩
    subst hx
    unfold sX5_isAllLetters_2
    by_cases hc : n < l.length
    · have := zL_get h hc
      simp (disch := omega) only [zLT, zC, zI, zE, h.1, if_neg, z_at h hr hl hR, if_pos hc, z_isLetter]
      cases hz : zlt (l.getD n 0) with
      | false =>
        simp only [Bool.false_eq_true, if_false, if_true, zE]
        refine zW_some.mpr ?_
        rw [zS_inr, if_neg]
        intro q
        rw [q n hc] at hz
        cases hz
      | true =>
        have e01 : ¬ (nI 1 = nI 0) := by decide +kernel
        simp only [if_true, e01, if_false, zE]
        refine zW_some.mpr ⟨hc, rfl, fun k hk => ?_⟩
        rcases Nat.lt_succ_iff_lt_or_eq.mp hk with q | q
        · exact h1 k q
        · rw [q]; exact hz
    · have : n = l.length := by omega
      subst this
      simp (disch := omega) only [zLT, zC, zI, zE, h.1, if_pos]
      refine zW_some.mpr ?_
      rw [zS_inr]
  obtain ⟨r, e, h2⟩ := this
  rw [e, h2]
