/-- what is known of a sheet -/
theorem zSH_c {σ : Mem} {g : Nat → Int32} (h : zIv σ g) {t : Nat} (ht : t < 4) : ∃ n, n ≤ 40 ∧ σ (367 + 2 * t) 1 = nI n ∧ σ 399 t = nI n ∧ (∀ k, k < n → σ (368 + 2 * t) k = σ 400 (40 * t + k)) ∧ ((σ (367 + 2 * t) 0 = -nI 1 ∧ σ 398 t = -nI 1) ∨ ∃ so, so ≤ 1 ∧ σ (367 + 2 * t) 0 = nI so ∧ σ 398 t = nI so) := by
  obtain ⟨h1, h2, h3, h4, h5⟩ := h.2.2.2.2.2.2.2 t ht
  refine ⟨_, h4.2, h3.trans h4.1, h4.1, h5, ?_⟩
  rcases h2 with h2 | h2
  · exact Or.inl ⟨h1.trans h2, h2⟩
  · exact Or.inr ⟨_, h2.2, h1.trans h2.1, h2.1⟩
theorem z_isSheet {σ : Mem} {t : Nat} (ht : t < 4) : fX12_isSheet σ (nI t) = some (nI 1) := by
  unfold fX12_isSheet
  rw [show (3 : Int32) = nI 3 from rfl, zLT.1, z_isIn (by omega) (by omega) (by omega)]
  rfl
theorem z_isSheetN {σ : Mem} {x : Int32} (h : x < 0 ∨ nI 4 ≤ x) : fX12_isSheet σ x = some (nI 0) := by
  unfold fX12_isSheet
  rw [show (3 : Int32) = nI (4 - 1) from rfl, zLT.1, z_isInX (by omega) (by omega) h]
  rfl
/-- both lay a sheet anew -/
theorem z_sheetNew {σ : Mem} {g : Nat → Int32} (h : zIv σ g) {t n : Nat} {so so' : Int32} (ht : t < 4) (hn : n ≤ 40) (hso : so = -nI 1 ∨ zNI so 1) :
    ∃ τ, fX7_begin σ (367 + 2 * t) so (nI n) = some τ ∧ τ (367 + 2 * t) 0 = so ∧ τ (367 + 2 * t) 1 = nI n ∧ (∀ k, k < 40 → τ (368 + 2 * t) k = nI 0) ∧ (∀ x c, x ≠ 367 + 2 * t → x ≠ 368 + 2 * t → τ x c = σ x c)
      ∧ zW (grd (inb (nI t) (ln (383 + 15))) (bnd (mw τ (383 + 15) (ix (nI t)) so) (fun m9 => grd (inb (nI t) (ln (383 + 16))) (bnd (mw m9 (383 + 16) (ix (nI t)) (nI n)) (fun m11 => lp (sX12_sheet_65 383 (nI t)) FU ((0 : Int32), m11)))))) (fun s => s.1 = nI 1 ∧ ∃ g, zIv s.2 g) := by
  have xs : ∃ τ, fX7_begin σ (367 + 2 * t) so (nI n) = some τ ∧ τ (367 + 2 * t) 0 = so ∧ τ (367 + 2 * t) 1 = nI n ∧ (∀ k, k < 40 → τ (368 + 2 * t) k = nI 0) ∧ ∀ x c, x ≠ 367 + 2 * t → x ≠ 368 + 2 * t → τ x c = σ x c := by
    unfold fX7_begin
    refine zW_bv (mw σ (367 + 2 * t) 0 so) rfl (zW_bv (mw (mw σ (367 + 2 * t) 0 so) (367 + 2 * t) 1 (nI n)) rfl ?_)
    obtain ⟨τ, t1, t2, t3⟩ := z_fillN (σ := mw (mw σ (367 + 2 * t) 0 so) (367 + 2 * t) 1 (nI n)) (i := 367 + 2 * t + 1) (v := nI 0) (zl_t.2 _ (by omega) (by omega) (by omega)) (by omega)
    refine zW_ob t1 (zW_so ⟨?_, ?_, ?_, fun x c p q => ?_⟩)
    · rw [t3 _ _ (by omega)]; simp (disch := omega) only [zM]
    · rw [t3 _ _ (by omega)]; simp (disch := omega) only [zM]
    · rw [show 368 + 2 * t = 367 + 2 * t + 1 by omega]; exact t2
    · rw [t3 _ _ (by omega)]; simp (disch := omega) only [zM]
  obtain ⟨τ, x1, x2, x3, x4, x5⟩ := xs
  refine ⟨τ, x1, x2, x3, x4, x5, ?_⟩
  refine zW_gd (by simp (disch := omega) only [Nat.reduceAdd, zl_c, zI]) ?_
  refine zW_bv (mw τ 398 t so) (by simp (disch := omega) only [Nat.reduceAdd, zI]) ?_
  refine zW_gd (by simp (disch := omega) only [Nat.reduceAdd, zl_c, zI]) ?_
  refine zW_bv (mw (mw τ 398 t so) 399 t (nI n)) (by simp (disch := omega) only [Nat.reduceAdd, zI]) ?_
  refine zW_lp (fun j a => ∃ υ, a = (nI j, υ) ∧ j ≤ n ∧ υ 398 t = so ∧ υ 399 t = nI n ∧ (∀ k, k < j → υ 400 (40 * t + k) = nI 0) ∧ (∀ k, k ≠ t → υ 398 k = τ 398 k ∧ υ 399 k = τ 399 k) ∧ (∀ k, ¬ (40 * t ≤ k ∧ k < 40 * t + n) → υ 400 k = τ 400 k) ∧ ∀ x c, x ≠ 398 → x ≠ 399 → x ≠ 400 → υ x c = τ x c) n ?_ (by unfold FU; omega)
    ⟨_, rfl, Nat.zero_le _, by simp (disch := omega) only [zM], by simp (disch := omega) only [zM], fun k hk => absurd hk (by omega), fun k hk => by simp (disch := omega) only [zM]; exact ⟨trivial, trivial⟩, fun k _ => by simp (disch := omega) only [zM], fun x c p q r => by simp (disch := omega) only [zM]⟩
  rintro j a hj ⟨υ, rfl, -, u1, u2, u3, u4, u5, u6⟩
  unfold sX12_sheet_65
  dsimp only
  refine zW_gd (by simp (disch := omega) only [Nat.reduceAdd, zl_c, zI]) ?_
  refine zW_if (fun q => ?_) (fun q => ?_)
  · simp (disch := omega) only [Nat.reduceAdd, zI, u2, zC] at q
    have : j = n := by omega
    subst this
    refine zW_oR (zW_so ⟨rfl, g, zIv_sh h (fun x c p q r => ?_) (fun s hs => ?_)⟩)
    · dsimp only
      rw [u6 x c (by omega) (by omega) (by omega), x5 x c (by omega) (by omega)]
    · have hT := h.2.2.2.2.2.2.2 s hs
      dsimp only
      by_cases hst : s = t
      · subst hst
        rw [u6 _ _ (by omega) (by omega) (by omega), u6 _ 1 (by omega) (by omega) (by omega), x2, x3, u1, u2]
        refine ⟨rfl, hso, rfl, zNI_of hn (by omega), fun k hk => ?_⟩
        rw [zi_ix (by omega)] at hk
        rw [u6 _ _ (by omega) (by omega) (by omega), x4 k (by omega), u3 k hk]
      · rw [u6 _ _ (by omega) (by omega) (by omega), u6 _ 1 (by omega) (by omega) (by omega), x5 _ _ (by omega) (by omega), x5 _ 1 (by omega) (by omega), (u4 s hst).1, (u4 s hst).2, x5 398 _ (by omega) (by omega), x5 399 _ (by omega) (by omega)]
        refine ⟨hT.1, hT.2.1, hT.2.2.1, hT.2.2.2.1, fun k hk => ?_⟩
        have hb := hT.2.2.2.1.2
        rw [u6 _ _ (by omega) (by omega) (by omega), x5 _ _ (by omega) (by omega), u5 _ (by omega), x5 400 _ (by omega) (by omega)]
        exact hT.2.2.2.2 k hk
  · simp (disch := omega) only [Nat.reduceAdd, zI, u2, zC] at q
    refine zW_gd (by simp (disch := omega) only [zLT, Nat.reduceAdd, zl_c, zI]) ?_
    refine zW_bv (mw υ 400 (40 * t + j) (nI 0)) (by simp (disch := omega) only [zLT, Nat.reduceAdd, zI]) ?_
    refine zW_oL ⟨by omega, mw υ 400 (40 * t + j) (nI 0), by simp only [zLT, zI], by omega, by simp (disch := omega) only [zM]; exact u1, by simp (disch := omega) only [zM]; exact u2, fun k hk => ?_, fun k hk => by simp (disch := omega) only [zM]; exact u4 k hk, fun k hk => by simp (disch := omega) only [zM]; exact u5 k hk, fun x c p q r => by simp (disch := omega) only [zM]; exact u6 x c p q r⟩
    by_cases q : k = j
    · subst q; simp only [zM]
    · simp (disch := omega) only [zM]
      exact u3 k (by omega)
theorem z_op_sheet {σ : Mem} {g : Nat → Int32} (h : zIv σ g) (p1 p2 p3 : Int32) : zOp σ (fun σ => fX11_sheet σ 0 p1 p2 p3) (fun τ => fX12_sheet τ 383 p1 p2 p3) := by
  rcases zrg p1 (n := 4) (by omega) with ⟨t, ht, rfl⟩ | h1
  rotate_left
  · refine zO_e (r := -nI 2) (τ := σ) (υ := σ) ?_ ?_ h
    · unfold fX11_sheet
      rw [z_sheetAtN h1]; rfl
    · unfold fX12_sheet
      rw [z_isSheetN h1]; rfl
  have xa : ∀ Q, zW (if p2 < (-1 : Int32) then (some ((-2 : Int32), σ)) else (if p2 ≤ (1 : Int32) then (if p2 = (-1 : Int32) then (obd (fX7_begin σ (367 + 2 * t) (-1 : Int32) (0 : Int32)) (fun q7 => some ((1 : Int32), q7))) else (if p3 ≤ (40 : Int32) then (if 0 ≤ p3 then (obd (fX7_begin σ (367 + 2 * t) p2 p3) (fun q11 => some ((1 : Int32), q11))) else (some ((-14 : Int32), σ))) else (some ((-2 : Int32), σ)))) else (some ((-2 : Int32), σ)))) Q → zW (fX11_sheet σ 0 (nI t) p2 p3) Q := by
    intro Q hQ
    unfold fX11_sheet
    rw [z_sheetAt ht]
    exact hQ
  have ma : ∀ (τ : Mem) Q, ¬ p2 < -nI 1 → p2 ≤ nI 1 → zW (bnd (fun (_ : Unit) => bnd (fun (_ : Unit) => grd (inb (nI t) (ln (383 + 15))) (bnd (mw τ (383 + 15) (ix (nI t)) p2) (fun m9 => bnd (fun (y10 : Int32) => grd (inb (nI t) (ln (383 + 16))) (bnd (mw m9 (383 + 16) (ix (nI t)) y10) (fun m11 => lp (sX12_sheet_65 383 (nI t)) FU ((0 : Int32), m11)))) (fun k10 => if 0 ≤ p2 then (k10 p3) else (k10 (0 : Int32)))))) (fun k8 => if p2 < 0 then (k8 ()) else (if 0 ≤ p3 then (k8 ()) else (some ((-14 : Int32), τ))))) (fun k7 => if p2 < 0 then (k7 ()) else (if p3 ≤ (40 : Int32) then (k7 ()) else (some ((-2 : Int32), τ))))) Q → zW (fX12_sheet τ 383 (nI t) p2 p3) Q := by
    intro τ Q a b hQ
    unfold fX12_sheet
    refine zW_ob (z_isSheet ht) (zW_f zn01 ?_)
    refine zW_ob (x := nI 1) ?_ (zW_f zn01 hQ)
    unfold fX12_isIn
    have a' : ¬ p2 < (-1 : Int32) := a
    have b' : ¬ (1 : Int32) < p2 := by
      rw [Int32.lt_iff_toInt_lt]
      rw [Int32.le_iff_toInt_le] at b
      have : (nI 1).toInt = (1 : Int32).toInt := rfl
      omega
    rw [if_neg a', if_neg b']
    rfl
  refine zO_op ?_
  show zW (fX11_sheet σ 0 (nI t) p2 p3) _
  refine xa _ ?_
  have refM : (p2 < -nI 1 ∨ nI 1 < p2) → zW (fX12_sheet σ 383 (nI t) p2 p3) (fun s => s.1 = -nI 2 ∧ ∃ g, zIv s.2 g) := by
    intro q
    unfold fX12_sheet
    refine zW_ob (z_isSheet ht) (zW_f zn01 ?_)
    exact zW_ob (z_isInN q) (zW_t rfl (zW_so ⟨rfl, g, h⟩))
  refine zW_if (fun q1 => zW_so (refM (Or.inl q1))) (fun q1 => ?_)
  refine zW_if (fun q2 => ?_) (fun q2 => ?_)
  rotate_left
  · refine zW_so (refM (Or.inr ?_))
    rw [Int32.lt_iff_toInt_lt]
    rw [Int32.le_iff_toInt_le] at q2
    have : (nI 1).toInt = (1 : Int32).toInt := rfl
    omega
  refine zW_if (fun q3 => ?_) (fun q3 => ?_)
  · have e : p2 = -nI 1 := q3
    subst e
    obtain ⟨τ, x1, x2, x3, x4, x5, x6⟩ := z_sheetNew (so' := nI 0) h ht (show 0 ≤ 40 by omega) (so := -nI 1) (Or.inl rfl)
    refine zW_ob x1 (zW_so (ma _ _ q1 q2 ?_))
    refine zW_jn (fun _ => True) ?_ (fun k hk => zW_t (by decide +kernel) (hk () trivial))
    rintro - -
    refine zW_jn (fun _ => True) ?_ (fun k hk => zW_t (by decide +kernel) (hk () trivial))
    rintro - -
    obtain ⟨s, e1, e2⟩ := x6
    refine ⟨s, ?_, e2⟩
    rw [← e1]
    have : ¬ (0 : Int32) ≤ -nI 1 := by decide +kernel
    simp only [zE_bnd, if_neg this]
    rfl
  · have h0 : nI 0 ≤ p2 := by
      rw [Int32.le_iff_toInt_le]
      rw [Int32.lt_iff_toInt_lt] at q1
      have e1 : (-1 : Int32).toInt = -1 := rfl
      have e0 : (nI 0).toInt = 0 := rfl
      have : p2.toInt ≠ -1 := by
        intro q
        apply q3
        rw [← Int32.toInt_inj, q]; rfl
      omega
    obtain ⟨so, hso, rfl⟩ : ∃ n, n ≤ 1 ∧ p2 = nI n := nI_of2 (n := 1) (by decide +kernel) (by
      intro q
      rw [Int32.lt_iff_toInt_lt] at q
      rw [Int32.le_iff_toInt_le] at h0
      have e0 : (nI 0).toInt = 0 := rfl
      have e1 : (0 : Int32).toInt = 0 := rfl
      omega) q2
    refine zW_if (fun q4 => ?_) (fun q4 => ?_)
    rotate_left
    · refine zW_so (ma _ _ q1 q2 ?_)
      refine zW_jn (fun _ => False) (fun _ hf => hf.elim) (fun k hk => zW_f (nI_pos (by omega)) (zW_f q4 (zW_so ⟨rfl, g, h⟩)))
    refine zW_if (fun q5 => ?_) (fun q5 => ?_)
    rotate_left
    · refine zW_so (ma _ _ q1 q2 ?_)
      refine zW_jn (fun _ => True) ?_ (fun k hk => zW_f (nI_pos (by omega)) (zW_t q4 (hk () trivial)))
      rintro - -
      exact zW_jn (fun _ => False) (fun _ hf => hf.elim) (fun k hk => zW_f (nI_pos (by omega)) (zW_f q5 (zW_so ⟨rfl, g, h⟩)))
    obtain ⟨n, hn, rfl⟩ : ∃ n, n ≤ 40 ∧ p3 = nI n := nI_of2 (n := 40) (by decide +kernel) (by
      intro q
      rw [Int32.lt_iff_toInt_lt] at q
      rw [Int32.le_iff_toInt_le] at q5
      omega) q4
    obtain ⟨τ, x1, x2, x3, x4, x5, x6⟩ := z_sheetNew (so' := nI 0) h ht hn (so := nI so) (Or.inr (zNI_of hso (by omega)))
    refine zW_ob x1 (zW_so (ma _ _ q1 q2 ?_))
    refine zW_jn (fun _ => True) ?_ (fun k hk => zW_f (nI_pos (by omega)) (zW_t q4 (hk () trivial)))
    rintro - -
    refine zW_jn (fun _ => True) ?_ (fun k hk => zW_f (nI_pos (by omega)) (zW_t q5 (hk () trivial)))
    rintro - -
    obtain ⟨s, e1, e2⟩ := x6
    refine ⟨s, ?_, e2⟩
    rw [← e1]
    have : (0 : Int32) ≤ nI so := nI_pos' (by omega)
    simp only [zE_bnd, if_pos this]
