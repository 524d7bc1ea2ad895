theorem yu_eq {f : Nat → Int32} {k : Nat} {x : Int32} : upd f k x k = x := if_pos rfl
theorem yu_ne {f : Nat → Int32} {k j : Nat} {x : Int32} (h : j ≠ k) : upd f k x j = f j := if_neg h
/-- the trays are what the law made of them -/
def yT (σ : Mem) (md sz ld : Nat → Int32) : Prop := ∀ t, t < 4 → (md t = -nI 1 ∧ σ (375 + 2 * t) 0 = -nI 1) ∨ ∃ kd n, kd ≤ 5 ∧ n ≤ 20 ∧ md t = nI kd ∧ sz t = nI n ∧ σ (375 + 2 * t) 0 = nI kd ∧ σ (375 + 2 * t) 1 = nI n ∧ ∀ k, k < n → σ (376 + 2 * t) k = ld (20 * t + k)
theorem yT_co {σ τ : Mem} {md sz ld : Nat → Int32} (h : yT σ md sz ld) (e : ∀ x c, 375 ≤ x → x < 383 → τ x c = σ x c) : yT τ md sz ld := fun t ht => by
  rcases h t ht with ⟨a, b⟩ | ⟨kd, n, a1, a2, a3, a4, a5, a6, a7⟩
  · exact Or.inl ⟨a, by rw [e _ _ (by omega) (by omega)]; exact b⟩
  · exact Or.inr ⟨kd, n, a1, a2, a3, a4, by rw [e _ _ (by omega) (by omega)]; exact a5, by rw [e _ _ (by omega) (by omega)]; exact a6, fun k hk => by rw [e _ _ (by omega) (by omega)]; exact a7 k hk⟩
theorem yn1 {k : Nat} (hk : k < 1000) : ¬ (nI k : Int32) = -nI 1 := by simp (disch := omega) only [zC]; exact fun h => h
theorem y_tray {σ : Mem} {t kd n : Nat} (ht : t < 4) (hkd : kd < 6) (hn : n ≤ 20) : ∃ τ, fX11_tray σ 0 (nI t) (nI kd) (nI n) = some (nI 1, τ) ∧ τ (375 + 2 * t) 0 = nI kd ∧ τ (375 + 2 * t) 1 = nI n ∧ (∀ k, k < 20 → τ (376 + 2 * t) k = -nI 1) ∧ ∀ x c, x ≠ 375 + 2 * t → x ≠ 376 + 2 * t → τ x c = σ x c := by
  obtain ⟨τ, t1, t2, t3⟩ := z_fillN (σ := mw (mw σ (375 + 2 * t) 0 (nI kd)) (375 + 2 * t) 1 (nI n)) (i := 375 + 2 * t + 1) (v := -nI 1) (zl_t.1 _ (by omega) (by omega) (by omega)) (by omega)
  refine ⟨τ, zW_val ?_, ?_, ?_, ?_, fun x c p q => ?_⟩
  · unfold fX11_tray
    refine zW_ob (z_trayAt ht) ?_
    rw [zE_ocss]
    refine zW_ob (z_below (b := 6) hkd (by omega)) (zW_f zn01 (zW_t (by simp (disch := omega) only [zLT, zC]; omega) (zW_t (by simp (disch := omega) only [zLT, zC]; omega) (zW_ob (x := τ) ?_ (zW_so rfl)))))
    refine zW_val ?_
    unfold fX9_begin
    refine zW_bv (mw σ (375 + 2 * t) 0 (nI kd)) rfl (zW_bv (mw (mw σ (375 + 2 * t) 0 (nI kd)) (375 + 2 * t) 1 (nI n)) rfl ?_)
    exact zW_ob t1 (zW_so rfl)
  · rw [t3 _ _ (by omega)]; simp (disch := omega) only [zM]
  · rw [t3 _ _ (by omega)]; simp (disch := omega) only [zM]
  · rw [show 376 + 2 * t = 375 + 2 * t + 1 by omega]; exact t2
  · rw [t3 _ _ (by omega)]; simp (disch := omega) only [zM]
theorem y_trayB {σ : Mem} {t kd : Nat} {x : Int32} (ht : t < 4) (hkd : kd < 6) (hx : ¬ x ≤ nI 20) : fX11_tray σ 0 (nI t) (nI kd) x = some (-nI 2, σ) := by
  refine zW_val ?_
  unfold fX11_tray
  refine zW_ob (z_trayAt ht) ?_
  rw [zE_ocss]
  exact zW_ob (z_below (b := 6) hkd (by omega)) (zW_f zn01 (zW_f hx (zW_so rfl)))
theorem y_trayN {σ : Mem} {t kd : Nat} {x : Int32} (ht : t < 4) (hkd : kd < 6) (hx : x ≤ nI 20) (h0 : ¬ nI 0 ≤ x) : fX11_tray σ 0 (nI t) (nI kd) x = some (-nI 14, σ) := by
  refine zW_val ?_
  unfold fX11_tray
  refine zW_ob (z_trayAt ht) ?_
  rw [zE_ocss]
  exact zW_ob (z_below (b := 6) hkd (by omega)) (zW_f zn01 (zW_t hx (zW_f h0 (zW_so rfl))))
theorem y_tray6 {σ : Mem} {p3 : Int32} : fX11_tray σ 0 (nI 0) (nI 6) p3 = some (-nI 2, σ) := by
  refine zW_val ?_
  unfold fX11_tray
  refine zW_ob (z_trayAt (by omega)) ?_
  rw [zE_ocss]
  exact zW_ob (z_belowN (Or.inr (Int32.le_refl _))) (zW_t rfl (zW_so rfl))
theorem yT_tray {σ τ : Mem} {md sz ld : Nat → Int32} {t kd n : Nat} (h : yT σ md sz ld) (ht : t < 4) (hkd : kd < 6) (hn : n ≤ 20) (t1 : τ (375 + 2 * t) 0 = nI kd) (t2 : τ (375 + 2 * t) 1 = nI n) (t3 : ∀ k, k < 20 → τ (376 + 2 * t) k = -nI 1) (t4 : ∀ x c, x ≠ 375 + 2 * t → x ≠ 376 + 2 * t → τ x c = σ x c) {md' sz' ld' : Nat → Int32} (e1 : md' = upd md t (nI kd)) (e2 : sz' = upd sz t (nI n)) (e3 : ∀ k, k < n → ld' (20 * t + k) = -nI 1) (e4 : ∀ k, ¬ (20 * t ≤ k ∧ k < 20 * t + n) → ld' k = ld k) : yT τ md' sz' ld' := by
  subst e1 e2
  intro s hs
  by_cases e : s = t
  · subst e
    exact Or.inr ⟨kd, n, by omega, hn, yu_eq, yu_eq, t1, t2, fun k hk => by rw [t3 k (by omega), e3 k hk]⟩
  · rw [yu_ne e, yu_ne e]
    rcases h s hs with ⟨a, b⟩ | ⟨kd, n, a1, a2, a3, a4, a5, a6, a7⟩
    · exact Or.inl ⟨a, by rw [t4 _ _ (by omega) (by omega)]; exact b⟩
    · exact Or.inr ⟨kd, n, a1, a2, a3, a4, by rw [t4 _ _ (by omega) (by omega)]; exact a5, by rw [t4 _ _ (by omega) (by omega)]; exact a6, fun k hk => by rw [t4 _ _ (by omega) (by omega), a7 k hk, e4 _ (by omega)]⟩
/-- what lays answers: the kind and size of the tray, the place, whether the word is under it -/
def ydue (md sz pl : Int32) (un : Bool) : Int32 := if md = -nI 1 then -nI 11 else if pl < 0 ∨ sz ≤ pl then -nI 12 else if un = true then nI 1 else -nI 16
/-- the word's kind is under the tray's -/
def yun (g md : Int32) : Bool := zund (ix g) (ix md)
theorem y_lays {σ : Mem} {g md sz ld : Nat → Int32} {t : Nat} {p2 p3 : Int32} {un : Bool} (h : yB σ g) (hT : yT σ md sz ld) (ht : t < 4) (hp3 : (p3 = -nI 1 ∧ un = true) ∨ ∃ w, w < znW g ∧ p3 = nI w ∧ (¬ md t = -nI 1 → un = yun (g (zwa w)) (md t))) :
    ∃ τ, fX11_lays σ 0 (nI t) p2 p3 = some (ydue (md t) (sz t) p2 un, τ) ∧ (ydue (md t) (sz t) p2 un = nI 1 → ∃ k, p2 = nI k ∧ k < 20 ∧ yT τ md sz (upd ld (20 * t + k) p3)) ∧ (¬ ydue (md t) (sz t) p2 un = nI 1 → τ = σ) ∧ ∀ x c, ¬ (375 ≤ x ∧ x < 383) → τ x c = σ x c := by
  obtain ⟨hg, hc, hN⟩ := h
  have hW : znW g ≤ 20 := hg.1.2
  have xa : ∀ Q : Int32 × Mem → Prop, zW (obd (fX9_isMissing σ (375 + 2 * t)) (fun q19 => if q19 = 0 then (obd (fX9_has σ (375 + 2 * t) p2) (fun q22 => if q22 = 0 then (some ((-12 : Int32), σ)) else (bnd (fun (_ : Unit) => obd (fX9_lay σ (375 + 2 * t) p2 p3) (fun q28 => some ((1 : Int32), q28))) (fun k => if p3 = -nI 1 then k () else obd (fX10_isOf σ (12 + 3 * ix p3) (σ (375 + 2 * t) 0)) (fun q25 => if q25 = 0 then (some ((-16 : Int32), σ)) else k ()))))) else (some ((-11 : Int32), σ)))) Q → zW (fX11_lays σ 0 (nI t) p2 p3) Q := by
    intro Q hQ
    unfold fX11_lays
    rw [z_trayAt ht]
    simp only [zE_obd, zE_ocss]
    rcases hp3 with ⟨e, -⟩ | ⟨w, hw, e, -⟩
    · rw [Nat.zero_add, z_wordAtN hg hc (Or.inl (by rw [e]; decide +kernel))]
      simp only [zE_obd, zE_ocsn]
      simp only [zE_bnd, if_pos e] at hQ
      exact zW_t e hQ
    · subst e
      rw [Nat.zero_add, z_wordAt hg hc hw]
      simp only [zE_obd, zE_ocss]
      have : ¬ (nI w : Int32) = -nI 1 := yn1 (by omega)
      rw [zi_ix (by omega)] at hQ
      simp only [zE_bnd, if_neg this] at hQ
      exact hQ
  have key : zW (fX11_lays σ 0 (nI t) p2 p3) (fun r => r.1 = ydue (md t) (sz t) p2 un ∧ (ydue (md t) (sz t) p2 un = nI 1 → ∃ k, p2 = nI k ∧ k < 20 ∧ yT r.2 md sz (upd ld (20 * t + k) p3)) ∧ (¬ ydue (md t) (sz t) p2 un = nI 1 → r.2 = σ) ∧ ∀ x c, ¬ (375 ≤ x ∧ x < 383) → r.2 x c = σ x c) := by
    refine xa _ ?_
    rcases hT t ht with ⟨a, b⟩ | ⟨kd, n, a1, a2, a3, a4, a5, a6, a7⟩
    · refine zW_ob (z_miss b) ?_
      rw [if_pos rfl]
      have e : ydue (md t) (sz t) p2 un = -nI 11 := by unfold ydue; rw [if_pos a]
      exact zW_f zn01 (zW_so ⟨e.symm, fun q => by rw [e] at q; exact absurd q (by decide +kernel), fun _ => rfl, fun _ _ _ => rfl⟩)
    · refine zW_ob (z_miss a5) ?_
      rw [if_neg (yn1 (by omega))]
      refine zW_t rfl ?_
      rcases zrg p2 (n := n) (by omega) with ⟨k, hk, rfl⟩ | h2
      rotate_left
      · have e : ydue (md t) (sz t) p2 un = -nI 12 := by unfold ydue; rw [a3, if_neg (yn1 (by omega)), a4, if_pos h2]
        exact zW_ob (z_has9N a6 h2) (zW_t rfl (zW_so ⟨e.symm, fun q => by rw [e] at q; exact absurd q (by decide +kernel), fun _ => rfl, fun _ _ _ => rfl⟩))
      refine zW_ob (z_has9 a6 a2 hk) (zW_f zn01 ?_)
      have e0 : ydue (md t) (sz t) (nI k) un = if un = true then nI 1 else -nI 16 := by
        unfold ydue
        rw [a3, if_neg (yn1 (by omega)), a4, if_neg]
        rintro (q | q)
        · exact nI_pos (by omega) q
        · simp (disch := omega) only [zC] at q; omega
      rw [e0]
      have fin : un = true → zW (obd (fX9_lay σ (375 + 2 * t) (nI k) p3) (fun q28 => some ((1 : Int32), q28))) (fun r => r.1 = (if un = true then nI 1 else -nI 16) ∧ ((if un = true then nI 1 else -nI 16) = nI 1 → ∃ k', nI k = nI k' ∧ k' < 20 ∧ yT r.2 md sz (upd ld (20 * t + k') p3)) ∧ (¬ (if un = true then nI 1 else -nI 16) = nI 1 → r.2 = σ) ∧ ∀ x c, ¬ (375 ≤ x ∧ x < 383) → r.2 x c = σ x c) := by
        intro hu
        have e1 : fX9_lay σ (375 + 2 * t) (nI k) p3 = some (mw σ (376 + 2 * t) k p3) := by
          unfold fX9_lay
          rw [z_has9 a6 a2 hk]
          simp (disch := omega) only [zE, zLT, zn01, if_false, zl_t, zI]
          rw [show 375 + 2 * t + 1 = 376 + 2 * t by omega]
        refine zW_ob e1 (zW_so ⟨by rw [if_pos hu]; rfl, fun _ => ⟨k, rfl, by omega, fun s hs => ?_⟩, fun q => absurd (if_pos hu) q, fun x c p => by simp (disch := omega) only [zM]⟩)
        dsimp only
        rcases hT s hs with ⟨b1, b2⟩ | ⟨kd', n', b1, b2, b3, b4, b5, b6, b7⟩
        · exact Or.inl ⟨b1, by simp (disch := omega) only [zM]; exact b2⟩
        · refine Or.inr ⟨kd', n', b1, b2, b3, b4, by simp (disch := omega) only [zM]; exact b5, by simp (disch := omega) only [zM]; exact b6, fun j hj => ?_⟩
          by_cases e : s = t ∧ j = k
          · obtain ⟨e1, e2⟩ := e
            subst e1 e2
            rw [yu_eq]
            simp only [zM]
          · rw [yu_ne (by omega)]
            simp (disch := omega) only [zM]
            exact b7 j hj
      refine zW_jn (fun _ => un = true) (fun _ hz => fin hz) ?_
      intro kk hkk
      rcases hp3 with ⟨e, hu⟩ | ⟨w, hw, e, hu⟩
      · exact zW_t e (hkk () hu)
      · subst e
        refine zW_f (yn1 (by omega)) ?_
        have w0 := (hg.2.2.1 w hw).1
        have w1 := w0.2
        have b1 := (hc.2.2.1 w hw).1
        rw [show 3 + 9 + 3 * w = 12 + 3 * w by omega, w0.1] at b1
        have hu := hu (by rw [a3]; exact yn1 (by omega))
        rw [a3, yun, zi_ix (by omega)] at hu
        rw [zi_ix (by omega), a5]
        refine zW_ob (z_isOf b1 w1 a1) ?_
        rw [← hu]
        cases un with
        | true => exact zW_f zn01 (hkk () rfl)
        | false => exact zW_t rfl (zW_so ⟨rfl, fun q => absurd q (by decide +kernel), fun _ => rfl, fun _ _ _ => rfl⟩)
  obtain ⟨⟨r, τ⟩, er, r1, r2, r3, r4⟩ := key
  dsimp only at r1 r2 r3 r4
  subst r1
  exact ⟨τ, er, r2, r3, r4⟩
theorem y_laysN {σ : Mem} {g : Nat → Int32} {p2 : Int32} (h : yB σ g) : fX11_lays σ 0 (nI 0) p2 (nI (znW g)) = some (-nI 2, σ) := by
  have hW : znW g ≤ 20 := h.1.1.2
  refine zW_val ?_
  unfold fX11_lays
  refine zW_ob (z_trayAt (by omega)) ?_
  rw [zE_ocss, Nat.zero_add]
  refine zW_ob (z_wordAtN h.1 h.2.1 (Or.inr (Int32.le_refl _))) ?_
  rw [zE_ocsn]
  exact zW_f (yn1 (by omega)) (zW_so rfl)
/-- what laid answers -/
def ylaid (md sz : Int32) (ld : Nat → Int32) (t : Nat) (p : Int32) : Int32 := if md = -nI 1 then -nI 11 else if p < 0 ∨ sz ≤ p then -nI 12 else ld (20 * t + ix p)
theorem y_laid {σ : Mem} {md sz ld : Nat → Int32} {t : Nat} {p2 : Int32} (hT : yT σ md sz ld) (ht : t < 4) : fX11_laid σ 0 (nI t) p2 = some (ylaid (md t) (sz t) ld t p2) := by
  refine zW_val ?_
  unfold fX11_laid
  refine zW_ob (z_trayAt ht) ?_
  rw [zE_ocss]
  rcases hT t ht with ⟨a, b⟩ | ⟨kd, n, a1, a2, a3, a4, a5, a6, a7⟩
  · refine zW_ob (z_miss b) ?_
    rw [if_pos rfl]
    exact zW_f zn01 (zW_so (by unfold ylaid; rw [if_pos a]; rfl))
  · refine zW_ob (z_miss a5) ?_
    rw [if_neg (yn1 (by omega))]
    refine zW_t rfl ?_
    unfold ylaid
    rw [a3, if_neg (yn1 (by omega)), a4]
    rcases zrg p2 (n := n) (by omega) with ⟨k, hk, rfl⟩ | h2
    · refine zW_ob (z_has9 a6 a2 hk) (zW_f zn01 (zW_ob (x := σ (376 + 2 * t) k) ?_ (zW_so ?_)))
      · unfold fX9_wordAt
        rw [z_has9 a6 a2 hk]
        simp (disch := omega) only [zE, zLT, zn01, if_false, zl_t, zI]
        rw [show 375 + 2 * t + 1 = 376 + 2 * t by omega]
      · rw [if_neg, zi_ix (by omega), a7 k hk]
        rintro (q | q)
        · exact nI_pos (by omega) q
        · simp (disch := omega) only [zC] at q; omega
    · refine zW_ob (z_has9N a6 h2) (zW_t rfl (zW_so ?_))
      rw [if_pos h2]; rfl
theorem y_laid4 {σ : Mem} {p : Int32} : fX11_laid σ 0 (nI 4) p = some (-nI 2) := by
  unfold fX11_laid
  rw [z_trayAtN (Or.inr (Int32.le_refl _))]; rfl
theorem y_like {σ : Mem} {md sz ld : Nat → Int32} {t o : Nat} (hT : yT σ md sz ld) (ht : t < 4) (ho : o < 4) :
    (md o = -nI 1 ∧ fX11_like σ 0 (nI t) (nI o) = some (-nI 11, σ)) ∨ ∃ n τ, n ≤ 20 ∧ sz o = nI n ∧ ¬ md o < 0 ∧ fX11_like σ 0 (nI t) (nI o) = some (nI n, τ) ∧ (∀ ld' : Nat → Int32, (∀ k, k < n → ld' (20 * t + k) = ld (20 * o + k)) → (∀ k, ¬ (20 * t ≤ k ∧ k < 20 * t + n) → ld' k = ld k) → yT τ (upd md t (md o)) (upd sz t (sz o)) ld') ∧ ∀ x c, ¬ (375 ≤ x ∧ x < 383) → τ x c = σ x c := by
  have xa : ∀ Q : Int32 × Mem → Prop, zW (obd (fX9_isMissing σ (375 + 2 * o)) (fun q10 => if q10 = 0 then (obd (fX9_become σ (375 + 2 * t) (375 + 2 * o)) (fun q13 => some ((q13 (375 + 2 * t) 1), q13))) else (some ((-11 : Int32), σ)))) Q → zW (fX11_like σ 0 (nI t) (nI o)) Q := by
    intro Q hQ
    unfold fX11_like
    rw [z_trayAt ht]
    simp only [zE_obd, zE_ocss]
    rw [z_trayAt ho]
    simp only [zE_obd, zE_ocss]
    exact hQ
  rcases hT o ho with ⟨a, b⟩ | ⟨kd, n, a1, a2, a3, a4, a5, a6, a7⟩
  · refine Or.inl ⟨a, zW_val (xa _ (zW_ob (z_miss b) ?_))⟩
    rw [if_pos rfl]
    exact zW_f zn01 (zW_so rfl)
  · have xs : ∃ τ, fX9_become σ (375 + 2 * t) (375 + 2 * o) = some τ ∧ τ (375 + 2 * t) 0 = nI kd ∧ τ (375 + 2 * t) 1 = nI n ∧ (∀ k, k < 20 → τ (376 + 2 * t) k = σ (376 + 2 * o) k) ∧ ∀ x c, x ≠ 375 + 2 * t → x ≠ 376 + 2 * t → τ x c = σ x c := by
      unfold fX9_become
      refine zW_bv (mw σ (375 + 2 * t) 0 (nI kd)) (by rw [a5]) ?_
      have e1 : (mw σ (375 + 2 * t) 0 (nI kd)) (375 + 2 * o) 1 = nI n := by simp (disch := omega) only [zM]; exact a6
      refine zW_bv (mw (mw σ (375 + 2 * t) 0 (nI kd)) (375 + 2 * t) 1 (nI n)) (by rw [e1]) ?_
      refine zW_gd (by simp (disch := omega) only [zLT, zI, zl_t]) ?_
      refine zW_so ⟨?_, ?_, fun k hk => ?_, fun x c p q => ?_⟩
      · simp (disch := omega) only [zLT, zI, zM]
      · simp (disch := omega) only [zLT, zI, zM]
      · simp (disch := omega) only [zLT, zI, zM]
        rw [show 375 + 2 * o + 1 = 376 + 2 * o by omega, show 0 + (k - 0) = k by omega]
      · simp (disch := omega) only [zLT, zI, zM]
    obtain ⟨τ, x1, x2, x3, x4, x5⟩ := xs
    refine Or.inr ⟨n, τ, a2, a4, by rw [a3]; exact nI_pos (by omega), zW_val (xa _ (zW_ob (z_miss a5) ?_)), fun ld' l1 l2 s hs => ?_, fun x c p => x5 x c (by omega) (by omega)⟩
    · rw [if_neg (yn1 (by omega))]
      refine zW_t rfl (zW_ob x1 (zW_so ?_))
      rw [x3]
    · by_cases e : s = t
      · subst e
        exact Or.inr ⟨kd, n, a1, a2, yu_eq.trans a3, yu_eq.trans a4, x2, x3, fun k hk => by rw [x4 k (by omega), a7 k hk, l1 k hk]⟩
      · rw [yu_ne e, yu_ne e]
        rcases hT s hs with ⟨b1, b2⟩ | ⟨kd', n', b1, b2, b3, b4, b5, b6, b7⟩
        · exact Or.inl ⟨b1, by rw [x5 _ _ (by omega) (by omega)]; exact b2⟩
        · exact Or.inr ⟨kd', n', b1, b2, b3, b4, by rw [x5 _ _ (by omega) (by omega)]; exact b5, by rw [x5 _ _ (by omega) (by omega)]; exact b6, fun k hk => by rw [x5 _ _ (by omega) (by omega), b7 k hk, l2 _ (by omega)]⟩
theorem y_like4 {σ : Mem} : fX11_like σ 0 (nI 0) (nI 4) = some (-nI 2, σ) := by
  unfold fX11_like
  rw [z_trayAt (by omega)]
  simp only [zE_obd, zE_ocss]
  rw [z_trayAtN (Or.inr (Int32.le_refl _))]; rfl
