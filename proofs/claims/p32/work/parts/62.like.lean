theorem z_op_like {σ : Mem} {g : Nat → Int32} (h : zIv σ g) (p1 p2 : Int32) : zOp σ (fun σ => fX11_like σ 0 p1 p2) (fun τ => fX12_like τ 383 p1 p2) := by
  rcases zrg p1 (n := 4) (by omega) with ⟨t, ht, rfl⟩ | h1
  rotate_left
  · refine zO_e (r := -nI 2) (τ := σ) (υ := σ) ?_ ?_ h
    · unfold fX11_like
      rw [z_trayAtN h1]
      rcases zrg p2 (n := 4) (by omega) with ⟨w, hw, rfl⟩ | h3
      · simp only [zE]; rw [z_trayAt hw]; rfl
      · simp only [zE]; rw [z_trayAtN h3]; rfl
    · unfold fX12_like
      rw [show (3 : Int32) = nI (4 - 1) from rfl, zLT.1, z_isInX (by omega) (by omega) h1]; rfl
  rcases zrg p2 (n := 4) (by omega) with ⟨o, ho, rfl⟩ | h2
  rotate_left
  · refine zO_e (r := -nI 2) (τ := σ) (υ := σ) ?_ ?_ h
    · unfold fX11_like
      rw [z_trayAt ht]
      simp only [zE_obd, zE_ocss]
      rw [z_trayAtN h2]; rfl
    · unfold fX12_like
      rw [show (3 : Int32) = nI (4 - 1) from rfl, zLT.1, z_isIn (by omega) (by omega) (by omega), z_isInX (by omega) (by omega) h2]; rfl
  have xa : fX11_like σ 0 (nI t) (nI o) = obd (fX9_isMissing σ (375 + 2 * o)) (fun q10 => if q10 = 0 then (obd (fX9_become σ (375 + 2 * t) (375 + 2 * o)) (fun q13 => some ((q13 (375 + 2 * t) 1), q13))) else (some ((-11 : Int32), σ))) := by
    unfold fX11_like
    rw [z_trayAt ht]
    simp only [zE_obd, zE_ocss]
    rw [z_trayAt ho]
    simp only [zE_obd, zE_ocss]
  have ma : ∀ (τ : Mem) (Q : Int32 × Mem → Prop), zW (grd (inb (nI o) (ln (383 + 12))) (if 0 ≤ (τ (383 + 12) (ix (nI o))) then (grd (inb (nI o) (ln (383 + 12))) (grd (inb (nI t) (ln (383 + 12))) (bnd (mw τ (383 + 12) (ix (nI t)) (τ (383 + 12) (ix (nI o)))) (fun m8 => grd (inb (nI o) (ln (383 + 13))) (grd (inb (nI t) (ln (383 + 13))) (bnd (mw m8 (383 + 13) (ix (nI t)) (m8 (383 + 13) (ix (nI o)))) (fun m9 => lp (sX12_like_59 383 (nI t) (nI o)) FU ((0 : Int32), m9)))))))) else (some ((-11 : Int32), τ)))) Q → zW (fX12_like τ 383 (nI t) (nI o)) Q := by
    intro τ Q hQ
    unfold fX12_like
    rw [show (3 : Int32) = nI 3 from rfl, zLT.1]
    refine zW_ob (z_isIn (by omega) (by omega) (by omega)) (zW_f zn01 ?_)
    refine zW_ob (z_isIn (by omega) (by omega) (by omega)) (zW_f zn01 hQ)
  refine zO_op ?_
  show zW (fX11_like σ 0 (nI t) (nI o)) _
  rw [xa]
  rcases zTR_c h ho with ⟨a, b⟩ | ⟨kd, n, a1, a2, a3, a4, a5, a6, a7⟩
  · refine zW_ob (z_miss a) ?_
    rw [if_pos rfl]
    refine zW_f zn01 (zW_so (ma _ _ ?_))
    refine zW_gd (by simp (disch := omega) only [Nat.reduceAdd, zl_c, zI]) ?_
    exact zW_f (by simp (disch := omega) only [Nat.reduceAdd, zI, b]; decide +kernel) (zW_so ⟨rfl, g, h⟩)
  · have nm : ¬ (nI kd : Int32) = -nI 1 := by simp (disch := omega) only [zC]; exact fun h => h
    refine zW_ob (z_miss a3) ?_
    rw [if_neg nm]
    refine zW_t rfl ?_
    -- the class
    have xs : ∃ τ, fX9_become σ (375 + 2 * t) (375 + 2 * o) = some τ ∧ τ (375 + 2 * t) 0 = nI kd ∧ τ (375 + 2 * t) 1 = nI n ∧ (∀ k, k < 20 → τ (376 + 2 * t) k = σ (376 + 2 * o) k) ∧ ∀ x c, x ≠ 375 + 2 * t → x ≠ 376 + 2 * t → τ x c = σ x c := by
      unfold fX9_become
      refine zW_bv (mw σ (375 + 2 * t) 0 (nI kd)) (by rw [a3]) ?_
      have e1 : (mw σ (375 + 2 * t) 0 (nI kd)) (375 + 2 * o) 1 = nI n := by simp (disch := omega) only [zM]; exact a5
      refine zW_bv (mw (mw σ (375 + 2 * t) 0 (nI kd)) (375 + 2 * t) 1 (nI n)) (by rw [e1]) ?_
      refine zW_gd (by simp (disch := omega) only [zLT, zI, zl_t]) ?_
      refine zW_so ⟨?_, ?_, fun k hk => ?_, fun x c p q => ?_⟩
      · simp (disch := omega) only [zLT, zI, zM]
      · simp (disch := omega) only [zLT, zI, zM]
      · simp (disch := omega) only [zLT, zI, zM]
        rw [show 375 + 2 * o + 1 = 376 + 2 * o by omega, show 0 + (k - 0) = k by omega]
      · simp (disch := omega) only [zLT, zI, zM]
    obtain ⟨τ, x1, x2, x3, x4, x5⟩ := xs
    refine zW_ob x1 (zW_so (ma _ _ ?_))
    have t5 : τ 395 o = nI kd := by rw [x5 _ _ (by omega) (by omega)]; exact a4
    have t6 : τ 396 o = nI n := by rw [x5 _ _ (by omega) (by omega)]; exact a6
    refine zW_gd (by simp (disch := omega) only [Nat.reduceAdd, zl_c, zI]) ?_
    refine zW_t (by simp (disch := omega) only [Nat.reduceAdd, zI, t5]; exact nI_pos' (by omega)) ?_
    refine zW_gd (by simp (disch := omega) only [Nat.reduceAdd, zl_c, zI]) (zW_gd (by simp (disch := omega) only [Nat.reduceAdd, zl_c, zI]) ?_)
    refine zW_bv (mw τ 395 t (nI kd)) (by simp (disch := omega) only [Nat.reduceAdd, zI, t5]) ?_
    refine zW_gd (by simp (disch := omega) only [Nat.reduceAdd, zl_c, zI]) (zW_gd (by simp (disch := omega) only [Nat.reduceAdd, zl_c, zI]) ?_)
    refine zW_bv (mw (mw τ 395 t (nI kd)) 396 t (nI n)) (by simp (disch := omega) only [Nat.reduceAdd, zI, zM, t6]) ?_
    refine zW_lp (fun j a => ∃ υ, a = (nI j, υ) ∧ j ≤ n ∧ υ 395 t = nI kd ∧ υ 396 t = nI n ∧ υ 396 o = nI n ∧ (∀ k, k < j → υ 397 (20 * t + k) = τ 397 (20 * o + k)) ∧ (∀ k, k ≠ t → υ 395 k = τ 395 k ∧ υ 396 k = τ 396 k) ∧ (∀ k, ¬ (20 * t ≤ k ∧ k < 20 * t + j) → υ 397 k = τ 397 k) ∧ ∀ x c, x ≠ 395 → x ≠ 396 → x ≠ 397 → υ x c = τ x c) n ?_ (by unfold FU; omega)
      ⟨_, rfl, Nat.zero_le _, by simp (disch := omega) only [zM], by simp (disch := omega) only [zM], ?_, fun k hk => absurd hk (by omega), fun k hk => by simp (disch := omega) only [zM]; exact ⟨trivial, trivial⟩, fun k _ => by simp (disch := omega) only [zM], fun x c p q r => by simp (disch := omega) only [zM]⟩
    rotate_left
    · by_cases e : o = t
      · subst e; simp only [zM]
      · simp (disch := omega) only [zM]; exact t6
    rintro j a hj ⟨υ, rfl, -, u1, u2, u2', u3, u4, u5, u6⟩
    unfold sX12_like_59
    dsimp only
    refine zW_gd (by simp (disch := omega) only [Nat.reduceAdd, zl_c, zI]) ?_
    refine zW_if (fun q => ?_) (fun q => ?_)
    · simp (disch := omega) only [Nat.reduceAdd, zI, u2', zC] at q
      have : j = n := by omega
      subst this
      refine zW_oR (zW_gd (by simp (disch := omega) only [Nat.reduceAdd, zl_c, zI]) ?_)
      refine zW_so ⟨?_, g, zIv_tr h (fun x c p q r => ?_) (fun s hs => ?_)⟩
      · simp (disch := omega) only [Nat.reduceAdd, zI, u2, x3]
      · dsimp only
        rw [u6 x c (by omega) (by omega) (by omega), x5 x c (by omega) (by omega)]
      · have hT := h.2.2.2.2.2.2.1 s hs
        dsimp only
        by_cases hst : s = t
        · subst hst
          rw [u6 _ _ (by omega) (by omega) (by omega), u6 _ 1 (by omega) (by omega) (by omega), x2, x3, u1, u2]
          refine ⟨rfl, Or.inr ⟨zNI_of (by omega) (by omega), rfl, zNI_of a2 (by omega), fun k hk => ?_⟩⟩
          rw [zi_ix (by omega)] at hk
          rw [u6 _ _ (by omega) (by omega) (by omega), x4 k (by omega), u3 k hk, x5 397 _ (by omega) (by omega), a7 k hk]
        · rw [u6 _ _ (by omega) (by omega) (by omega), u6 _ 1 (by omega) (by omega) (by omega), x5 _ _ (by omega) (by omega), x5 _ 1 (by omega) (by omega), (u4 s hst).1, (u4 s hst).2, x5 395 _ (by omega) (by omega), x5 396 _ (by omega) (by omega)]
          refine ⟨hT.1, hT.2.imp id (fun q => ⟨q.1, q.2.1, q.2.2.1, fun k hk => ?_⟩)⟩
          have hb := q.2.2.1.2
          rw [u6 _ _ (by omega) (by omega) (by omega), x5 _ _ (by omega) (by omega), u5 _ (by omega), x5 397 _ (by omega) (by omega)]
          exact q.2.2.2 k hk
    · simp (disch := omega) only [Nat.reduceAdd, zI, u2', zC] at q
      refine zW_gd (by simp (disch := omega) only [zLT, Nat.reduceAdd, zl_c, zI]) (zW_gd (by simp (disch := omega) only [zLT, Nat.reduceAdd, zl_c, zI]) ?_)
      have hv : υ 397 (20 * o + j) = τ 397 (20 * o + j) := by
        by_cases e : o = t
        · subst e; exact u5 _ (by omega)
        · exact u5 _ (by omega)
      refine zW_bv (mw υ 397 (20 * t + j) (τ 397 (20 * o + j))) (by simp (disch := omega) only [zLT, Nat.reduceAdd, zI, hv]) ?_
      refine zW_oL ⟨by omega, mw υ 397 (20 * t + j) (τ 397 (20 * o + j)), by simp only [zLT, zI], by omega, by simp (disch := omega) only [zM]; exact u1, by simp (disch := omega) only [zM]; exact u2, by simp (disch := omega) only [zM]; exact u2', fun k hk => ?_, fun k hk => by simp (disch := omega) only [zM]; exact u4 k hk, fun k hk => by simp (disch := omega) only [zM]; exact u5 k (by omega), fun x c p q r => by simp (disch := omega) only [zM]; exact u6 x c p q r⟩
      by_cases q : k = j
      · subst q; simp only [zM]
      · simp (disch := omega) only [zM]
        exact u3 k (by omega)
