/-- what an op of both sides must give -/
def zOp (σ : Mem) (x m : Mem → Option (Int32 × Mem)) : Prop := ∃ r τ υ, x σ = some (r, τ) ∧ m τ = some (r, υ) ∧ ∃ g, zIv υ g
theorem zW_pair {o : Option (Int32 × Mem)} {v : Int32} {P : Mem → Prop} (h : zW o (fun r => r.1 = v ∧ P r.2)) : ∃ υ, o = some (v, υ) ∧ P υ := by
  obtain ⟨⟨a, b⟩, e, h1, h2⟩ := h
  exact ⟨b, by rw [e, show a = v from h1], h2⟩
theorem zl_t : (∀ x, 376 ≤ x → x < 384 → x % 2 = 0 → ln x = 20) ∧ (∀ x, 368 ≤ x → x < 376 → x % 2 = 0 → ln x = 40) := by
  have k1 : ∀ x : Fin 402, 376 ≤ x.1 → x.1 < 384 → x.1 % 2 = 0 → ln x.1 = 20 := by decide +kernel
  have k2 : ∀ x : Fin 402, 368 ≤ x.1 → x.1 < 376 → x.1 % 2 = 0 → ln x.1 = 40 := by decide +kernel
  exact ⟨fun x h1 h2 h3 => k1 ⟨x, by omega⟩ h1 h2 h3, fun x h1 h2 h3 => k2 ⟨x, by omega⟩ h1 h2 h3⟩
/-- an int is in a range below, or not -/
theorem zrg (x : Int32) {n : Nat} (hn : n < 2 ^ 31) : (∃ j, j < n ∧ x = nI j) ∨ (x < 0 ∨ nI n ≤ x) := by
  rcases pk_ix x hn with h | h | h
  · exact Or.inr (Or.inl h)
  · exact Or.inr (Or.inr h)
  · exact Or.inl h
theorem zrgM {x : Int32} {n : Nat} (hn : 0 < n) (hn2 : n < 2 ^ 30) (h : x < 0 ∨ nI n ≤ x) : x < nI 0 ∨ nI (n - 1) < x := by
  have := z_pred hn2 h
  rw [zi_sub (by omega)] at this
  exact this
theorem z_isInX {σ : Mem} {x : Int32} {n : Nat} (hn : 0 < n) (hn2 : n < 2 ^ 30) (h : x < 0 ∨ nI n ≤ x) : fX12_isIn σ x (nI 0) (nI (n - 1)) = some (nI 0) := z_isInN (zrgM hn hn2 h)
theorem z_trayAt {σ : Mem} {t : Nat} (ht : t < 4) : fX11_trayAt σ 0 (nI t) = some (some (375 + 2 * t)) := by
  unfold fX11_trayAt
  simp (disch := omega) only [zLT, zC, Nat.zero_add, zl_c, if_neg, zE, zI]
theorem z_trayAtN {σ : Mem} {x : Int32} (h : x < 0 ∨ nI 4 ≤ x) : fX11_trayAt σ 0 x = some none := by
  unfold fX11_trayAt
  by_cases h0 : x < 0
  · rw [if_pos h0]
  · rw [if_neg h0, if_pos]
    simp only [Nat.zero_add, zl_c]
    exact h.resolve_left h0
theorem z_sheetAt {σ : Mem} {t : Nat} (ht : t < 4) : fX11_sheetAt σ 0 (nI t) = some (some (367 + 2 * t)) := by
  unfold fX11_sheetAt
  simp (disch := omega) only [zLT, zC, Nat.zero_add, zl_c, if_neg, zE, zI]
theorem z_sheetAtN {σ : Mem} {x : Int32} (h : x < 0 ∨ nI 4 ≤ x) : fX11_sheetAt σ 0 x = some none := by
  unfold fX11_sheetAt
  by_cases h0 : x < 0
  · rw [if_pos h0]
  · rw [if_neg h0, if_pos]
    simp only [Nat.zero_add, zl_c]
    exact h.resolve_left h0
/-- only trays' cells differ -/
theorem zIv_tr {σ τ : Mem} {g : Nat → Int32} (h : zIv σ g) (e : ∀ x c, ¬ (375 ≤ x ∧ x < 383) → ¬ (395 ≤ x ∧ x < 398) → ¬ zsc x c → τ x c = σ x c) (ht : zTR τ) : zIv τ g := by
  obtain ⟨h1, h2, h3, h4, h5, h6, h7, h8⟩ := h
  have e' : ∀ x c, ¬ (341 ≤ x ∧ x ≤ 364) → ¬ (375 ≤ x ∧ x < 383) → x ≠ 383 → ¬ (387 ≤ x ∧ x ≤ 398) → x ≠ 401 → τ x c = σ x c ∨ 398 ≤ x := fun x c a b d f q => by
    by_cases hx : 398 ≤ x
    · exact Or.inr hx
    · exact Or.inl (e x c b (by omega) (zsc_no a d (by omega) q))
  have e1 : ∀ x c, x < 341 → τ x c = σ x c := fun x c p => e x c (by omega) (by omega) (zsc_no (by omega) (by omega) (by omega) (by omega))
  have e2 : ∀ x c, 384 ≤ x → x < 387 → τ x c = σ x c := fun x c p q => e x c (by omega) (by omega) (zsc_no (by omega) (by omega) (by omega) (by omega))
  refine ⟨fun k hk => by rw [e2 _ _ (by omega) (by omega)]; exact h1 k hk, h2, zCB_co h2 h3 (fun a k p q => e1 a k (by omega)), zNG_co h4 (fun a k p q _ => e1 a k (by omega)) (fun a k p q => e1 a k (by omega)), ?_, ?_, ht, ?_⟩
  · exact zKP_co h5 (e1 _ _ (by omega)) (e _ _ (by omega) (by omega) (by unfold zsc; omega)) (fun k => e2 _ _ (by omega) (by omega)) (fun a k p q => e1 a k (by omega))
  · exact zTP_co h6 (fun k => e1 _ _ (by omega)) (fun k => e1 _ _ (by omega)) (e _ _ (by omega) (by omega) (by unfold zsc; omega)) (fun k => e2 _ _ (by omega) (by omega))
  · exact zSH_co h8 (fun a k p q => e a k (by omega) (by omega) (zsc_no (by omega) (by omega) (by omega) (by omega))) (fun a k p q => e a k (by omega) (by omega) (zsc_no (by omega) (by omega) (by omega) (by omega)))
theorem zIv_sh {σ τ : Mem} {g : Nat → Int32} (h : zIv σ g) (e : ∀ x c, ¬ (367 ≤ x ∧ x < 375) → ¬ (398 ≤ x ∧ x < 401) → ¬ zsc x c → τ x c = σ x c) (ht : zSH τ) : zIv τ g := by
  obtain ⟨h1, h2, h3, h4, h5, h6, h7, h8⟩ := h
  have e1 : ∀ x c, x < 341 → τ x c = σ x c := fun x c p => e x c (by omega) (by omega) (zsc_no (by omega) (by omega) (by omega) (by omega))
  have e2 : ∀ x c, 384 ≤ x → x < 387 → τ x c = σ x c := fun x c p q => e x c (by omega) (by omega) (zsc_no (by omega) (by omega) (by omega) (by omega))
  refine ⟨fun k hk => by rw [e2 _ _ (by omega) (by omega)]; exact h1 k hk, h2, zCB_co h2 h3 (fun a k p q => e1 a k (by omega)), zNG_co h4 (fun a k p q _ => e1 a k (by omega)) (fun a k p q => e1 a k (by omega)), ?_, ?_, ?_, ht⟩
  · exact zKP_co h5 (e1 _ _ (by omega)) (e _ _ (by omega) (by omega) (by unfold zsc; omega)) (fun k => e2 _ _ (by omega) (by omega)) (fun a k p q => e1 a k (by omega))
  · exact zTP_co h6 (fun k => e1 _ _ (by omega)) (fun k => e1 _ _ (by omega)) (e _ _ (by omega) (by omega) (by unfold zsc; omega)) (fun k => e2 _ _ (by omega) (by omega))
  · exact zTR_co h7 (fun a k p q => e a k (by omega) (by omega) (zsc_no (by omega) (by omega) (by omega) (by omega))) (fun a k p q => e a k (by omega) (by omega) (zsc_no (by omega) (by omega) (by omega) (by omega)))
theorem zIv_r {σ : Mem} {g : Nat → Int32} (h : zIv σ g) : ∃ g, zIv σ g := ⟨g, h⟩
theorem z_op_tray {σ : Mem} {g : Nat → Int32} (h : zIv σ g) (p1 p2 p3 : Int32) : zOp σ (fun σ => fX11_tray σ 0 p1 p2 p3) (fun τ => fX12_tray τ 383 p1 p2 p3) := by
  -- refused: nothing changes
  have ref : ∀ r, fX11_tray σ 0 p1 p2 p3 = some (r, σ) → fX12_tray σ 383 p1 p2 p3 = some (r, σ) → zOp σ (fun σ => fX11_tray σ 0 p1 p2 p3) (fun τ => fX12_tray τ 383 p1 p2 p3) := fun r a b => ⟨r, σ, σ, a, b, g, h⟩
  rcases zrg p1 (n := 4) (by omega) with ⟨t, ht, rfl⟩ | h1
  rotate_left
  · refine ref (-nI 2) ?_ ?_
    · unfold fX11_tray
      rw [z_trayAtN h1]; rfl
    · unfold fX12_tray
      rw [show (3 : Int32) = nI (4 - 1) from rfl, zLT.1, z_isInX (by omega) (by omega) h1]; rfl
  rcases zrg p2 (n := 6) (by omega) with ⟨kd, hkd, rfl⟩ | h2
  rotate_left
  · refine ref (-nI 2) ?_ ?_
    · unfold fX11_tray
      rw [z_trayAt ht]
      simp only [zE, zLT]
      rw [z_belowN h2]; rfl
    · unfold fX12_tray
      rw [show (3 : Int32) = nI 3 from rfl, show (5 : Int32) = nI (6 - 1) from rfl, zLT.1, z_isIn (by omega) (by omega) (by omega), z_isInX (by omega) (by omega) h2]; rfl
  have x0 : fX11_tray σ 0 (nI t) (nI kd) p3 = (if p3 ≤ nI 20 then (if nI 0 ≤ p3 then (obd (fX9_begin σ (375 + 2 * t) (nI kd) p3) (fun q9 => some (nI 1, q9))) else (some (-nI 14, σ))) else (some (-nI 2, σ))) := by
    unfold fX11_tray
    rw [z_trayAt ht]
    simp only [zE, zLT]
    rw [z_below hkd (by omega)]
    simp only [zE, zn01, if_false]
  have m0 : ∀ τ, fX12_tray τ 383 (nI t) (nI kd) p3 = (if p3 ≤ nI 20 then (if nI 0 ≤ p3 then (grd (inb (nI t) (ln (383 + 12))) (bnd (mw τ (383 + 12) (ix (nI t)) (nI kd)) (fun m9 => grd (inb (nI t) (ln (383 + 13))) (bnd (mw m9 (383 + 13) (ix (nI t)) p3) (fun m10 => lp (sX12_tray_51 383 (nI t) p3) FU (nI 0, m10)))))) else (some (-nI 14, τ))) else (some (-nI 2, τ))) := by
    intro τ
    unfold fX12_tray
    simp only [zLT]
    rw [z_isIn (by omega) (by omega) (by omega), z_isIn (by omega) (by omega) (by omega)]
    simp only [zE, zn01, if_false]
  by_cases h20 : p3 ≤ nI 20
  rotate_left
  · exact ref (-nI 2) (by rw [x0, if_neg h20]) (by rw [m0, if_neg h20])
  by_cases hneg : nI 0 ≤ p3
  rotate_left
  · exact ref (-nI 14) (by rw [x0, if_pos h20, if_neg hneg]) (by rw [m0, if_pos h20, if_neg hneg])
  obtain ⟨n, hn, rfl⟩ : ∃ n, n ≤ 20 ∧ p3 = nI n := nI_of2 (n := 20) (by decide +kernel) (by
    intro q
    rw [Int32.lt_iff_toInt_lt] at q
    rw [Int32.le_iff_toInt_le] at hneg
    have : (nI 0).toInt = 0 := nI_toInt (by omega)
    have e0 : (0 : Int32).toInt = 0 := rfl
    omega) h20
  -- the class
  have xs : ∃ τ, fX9_begin σ (375 + 2 * t) (nI kd) (nI n) = some τ ∧ τ (375 + 2 * t) 0 = nI kd ∧ τ (375 + 2 * t) 1 = nI n ∧ (∀ k, k < 20 → τ (376 + 2 * t) k = -nI 1) ∧ ∀ x c, x ≠ 375 + 2 * t → x ≠ 376 + 2 * t → τ x c = σ x c := by
    unfold fX9_begin
    refine zW_bv (mw σ (375 + 2 * t) 0 (nI kd)) rfl (zW_bv (mw (mw σ (375 + 2 * t) 0 (nI kd)) (375 + 2 * t) 1 (nI n)) rfl ?_)
    obtain ⟨τ, t1, t2, t3⟩ := z_fillN (σ := mw (mw σ (375 + 2 * t) 0 (nI kd)) (375 + 2 * t) 1 (nI n)) (i := 375 + 2 * t + 1) (v := -nI 1) (zl_t.1 _ (by omega) (by omega) (by omega)) (by omega)
    refine zW_ob t1 (zW_so ⟨?_, ?_, ?_, fun x c p q => ?_⟩)
    · rw [t3 _ _ (by omega)]; simp (disch := omega) only [zM]
    · rw [t3 _ _ (by omega)]; simp (disch := omega) only [zM]
    · rw [show 376 + 2 * t = 375 + 2 * t + 1 by omega]; exact t2
    · rw [t3 _ _ (by omega)]; simp (disch := omega) only [zM]
  obtain ⟨τ, x1, x2, x3, x4, x5⟩ := xs
  -- the model
  have ms : ∃ υ, fX12_tray τ 383 (nI t) (nI kd) (nI n) = some (nI 1, υ) ∧ υ 395 t = nI kd ∧ υ 396 t = nI n ∧ (∀ k, k < n → υ 397 (20 * t + k) = -nI 1) ∧ (∀ k, k ≠ t → υ 395 k = τ 395 k ∧ υ 396 k = τ 396 k) ∧ (∀ k, ¬ (20 * t ≤ k ∧ k < 20 * t + n) → υ 397 k = τ 397 k) ∧ ∀ x c, x ≠ 395 → x ≠ 396 → x ≠ 397 → υ x c = τ x c := by
    rw [m0, if_pos h20, if_pos hneg]
    refine zW_pair ?_
    refine zW_gd (by simp (disch := omega) only [Nat.reduceAdd, zl_c, zI]) ?_
    refine zW_bv (mw τ 395 t (nI kd)) (by simp (disch := omega) only [Nat.reduceAdd, zI]) ?_
    refine zW_gd (by simp (disch := omega) only [Nat.reduceAdd, zl_c, zI]) ?_
    refine zW_bv (mw (mw τ 395 t (nI kd)) 396 t (nI n)) (by simp (disch := omega) only [Nat.reduceAdd, zI]) ?_
    refine zW_lp (fun j a => ∃ υ, a = (nI j, υ) ∧ j ≤ n ∧ υ 395 t = nI kd ∧ υ 396 t = nI n ∧ (∀ k, k < j → υ 397 (20 * t + k) = -nI 1) ∧ (∀ k, k ≠ t → υ 395 k = τ 395 k ∧ υ 396 k = τ 396 k) ∧ (∀ k, ¬ (20 * t ≤ k ∧ k < 20 * t + n) → υ 397 k = τ 397 k) ∧ ∀ x c, x ≠ 395 → x ≠ 396 → x ≠ 397 → υ x c = τ x c) n ?_ (by unfold FU; omega)
      ⟨_, rfl, Nat.zero_le _, by simp (disch := omega) only [zM], by simp (disch := omega) only [zM], fun k hk => absurd hk (by omega), fun k hk => by simp (disch := omega) only [zM]; exact ⟨trivial, trivial⟩, fun k _ => by simp (disch := omega) only [zM], fun x c p q r => by simp (disch := omega) only [zM]⟩
    rintro j a hj ⟨υ, rfl, -, u1, u2, u3, u4, u5, u6⟩
    unfold sX12_tray_51
    dsimp only
    refine zW_if (fun q => ?_) (fun q => ?_)
    · simp (disch := omega) only [zC] at q
      have : j = n := by omega
      subst this
      exact zW_oR (zW_so ⟨rfl, u1, u2, u3, u4, u5, u6⟩)
    · simp (disch := omega) only [zC] at q
      refine zW_gd (by simp (disch := omega) only [zLT, Nat.reduceAdd, zl_c, zI]) ?_
      refine zW_bv (mw υ 397 (20 * t + j) (-nI 1)) (by simp (disch := omega) only [zLT, Nat.reduceAdd, zI]) ?_
      refine zW_oL ⟨by omega, mw υ 397 (20 * t + j) (-nI 1), by simp only [zLT, zI], by omega, by simp (disch := omega) only [zM]; exact u1, by simp (disch := omega) only [zM]; exact u2, fun k hk => ?_, fun k hk => by simp (disch := omega) only [zM]; exact u4 k hk, fun k hk => by simp (disch := omega) only [zM]; exact u5 k hk, fun x c p q r => by simp (disch := omega) only [zM]; exact u6 x c p q r⟩
      by_cases q : k = j
      · subst q; simp only [zM]
      · simp (disch := omega) only [zM]
        exact u3 k (by omega)
  obtain ⟨υ, y1, y2, y3, y4, y5, y6, y7⟩ := ms
  refine ⟨nI 1, τ, υ, by dsimp only; rw [x0, if_pos h20, if_pos hneg, x1]; rfl, y1, g, zIv_tr h (fun x c p q r => ?_) (fun s hs => ?_)⟩
  · rw [y7 x c (by omega) (by omega) (by omega), x5 x c (by omega) (by omega)]
  · have hT := h.2.2.2.2.2.2.1 s hs
    by_cases hst : s = t
    · subst hst
      rw [y7 _ _ (by omega) (by omega) (by omega), y7 _ 1 (by omega) (by omega) (by omega), x2, x3, y2, y3]
      refine ⟨rfl, Or.inr ⟨zNI_of (by omega) (by omega), rfl, zNI_of hn (by omega), fun k hk => ?_⟩⟩
      rw [zi_ix (by omega)] at hk
      rw [y7 _ _ (by omega) (by omega) (by omega), x4 k (by omega), y4 k hk]
    · rw [y7 _ _ (by omega) (by omega) (by omega), y7 _ 1 (by omega) (by omega) (by omega), x5 _ _ (by omega) (by omega), x5 _ 1 (by omega) (by omega), (y5 s hst).1, (y5 s hst).2, x5 395 _ (by omega) (by omega), x5 396 _ (by omega) (by omega)]
      refine ⟨hT.1, hT.2.imp id (fun q => ⟨q.1, q.2.1, q.2.2.1, fun k hk => ?_⟩)⟩
      have hb := q.2.2.1.2
      rw [y7 _ _ (by omega) (by omega) (by omega), x5 _ _ (by omega) (by omega), y6 _ (by omega), x5 397 _ (by omega) (by omega)]
      exact q.2.2.2 k hk
